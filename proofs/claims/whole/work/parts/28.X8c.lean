/-! printed by wip/gen: WishPlacesModel, part 2 -/
theorem F_X8_58 : FLD RX8 58 8 22 (.array .boolean) true := ⟨RX8, TX8, 29, tyX8, rfl, by decide, uX8, all_of 795 (by decide +kernel) (by decide +kernel), tyX8_ok, rfl, nmX8, rfl⟩
theorem F_X8_62 : FLD RX8 62 8 23 (.array .int) true := ⟨RX8, TX8, 29, tyX8, rfl, by decide, uX8, all_of 796 (by decide +kernel) (by decide +kernel), tyX8_ok, rfl, nmX8, rfl⟩
theorem F_X8_66 : FLD RX8 66 8 24 (.array .int) true := ⟨RX8, TX8, 29, tyX8, rfl, by decide, uX8, all_of 797 (by decide +kernel) (by decide +kernel), tyX8_ok, rfl, nmX8, rfl⟩
theorem F_X8_69 : FLD RX8 69 8 26 (.array .long) true := ⟨RX8, TX8, 29, tyX8, rfl, by decide, uX8, all_of 799 (by decide +kernel) (by decide +kernel), tyX8_ok, rfl, nmX8, rfl⟩
theorem F_X8_72 : FLD RX8 72 8 27 (.array .long) true := ⟨RX8, TX8, 29, tyX8, rfl, by decide, uX8, all_of 800 (by decide +kernel) (by decide +kernel), tyX8_ok, rfl, nmX8, rfl⟩
theorem F_X8_75 : FLD RX8 75 8 28 (.array .int) true := ⟨RX8, TX8, 29, tyX8, rfl, by decide, uX8, all_of 801 (by decide +kernel) (by decide +kernel), tyX8_ok, rfl, nmX8, rfl⟩
theorem F_X8_223 : FLD RX8 223 8 25 .long false := ⟨RX8, TX8, 29, tyX8, rfl, by decide, uX8, all_of 798 (by decide +kernel) (by decide +kernel), tyX8_ok, rfl, nmX8, rfl⟩
theorem m_X8_184 : Cond.methodLink RX8 184 yX8_findStanding ∈ ALLW := all_of 1022 (by decide +kernel) (by decide +kernel)
theorem m_X8_190 : Cond.methodLink RX8 190 yX8_standOn ∈ ALLW := all_of 1034 (by decide +kernel) (by decide +kernel)
theorem m_X8_197 : Cond.methodLink RX8 197 yX8_findStand ∈ ALLW := all_of 1018 (by decide +kernel) (by decide +kernel)
theorem m_X8_210 : Cond.methodLink RX8 210 yX8_wants ∈ ALLW := all_of 1076 (by decide +kernel) (by decide +kernel)
theorem m_X8_214 : Cond.methodLink RX8 214 yX8_findCan ∈ ALLW := all_of 1072 (by decide +kernel) (by decide +kernel)
theorem m_X8_217 : Cond.methodLink RX8 217 yX8_findRing ∈ ALLW := all_of 1068 (by decide +kernel) (by decide +kernel)
theorem m_X8_220 : Cond.methodLink RX8 220 yX8_picks ∈ ALLW := all_of 1084 (by decide +kernel) (by decide +kernel)
theorem m_X8_226 : Cond.methodLink RX8 226 yX8_eatsOf ∈ ALLW := all_of 1096 (by decide +kernel) (by decide +kernel)
theorem m_X8_229 : Cond.methodLink RX8 229 yX8_eaters ∈ ALLW := all_of 1100 (by decide +kernel) (by decide +kernel)
theorem m_X8_232 : Cond.methodLink RX8 232 yX8_findShares ∈ ALLW := all_of 1092 (by decide +kernel) (by decide +kernel)
theorem m_X8_235 : Cond.methodLink RX8 235 yX8_countOf ∈ ALLW := all_of 1112 (by decide +kernel) (by decide +kernel)
theorem k_X8_200 : Cond.constantLong RX8 200 100 ∈ ALLW := all_of 1054 (by decide +kernel) (by decide +kernel)
theorem k_X8_202 : Cond.constantLong RX8 202 8 ∈ ALLW := all_of 1059 (by decide +kernel) (by decide +kernel)
theorem k_X8_238 : Cond.constantLong RX8 238 331 ∈ ALLW := all_of 1120 (by decide +kernel) (by decide +kernel)
theorem k_X8_240 : Cond.constantLong RX8 240 31 ∈ ALLW := all_of 1121 (by decide +kernel) (by decide +kernel)
abbrev mu_X8_findStand : KM := (yX8_findStand, cX8_findStand, 7, none, { frames := 4, cells := 0, slots := 0, locals := 99 }, [], [])
def w_X8_findStand (c_askers : Int32) (c_places : Int32) (c_full : Int32) (c_firsts : Int32) (c_freed : Int32) (c_cost : Nat → Int64) (c_firstWorth : Nat → Int32) (c_found : Nat → Int32) (c_least : Nat → Int64) (c_seats : Nat → Int32) (c_secondWorth : Nat → Int32) (c_stand : Nat → Int64) (c_weight : Nat → Int32) (c_wish : Nat → Int32) (u_above : Int64) (u_below : Int64) (u_whole : Int64) : List mE := [.inr (8, [.int c_askers, .int c_places, .ref 5, .ref 9, .ref 1000, .long u_above, .long u_below, .ref 8, .int c_full, .ref 1001, .ref 3, .ref 1, .ref 4, .ref 1002, .ref 1003, .int c_firsts, .ref 2, .ref 6, .int c_freed, .ref 7, .ref 1004, .ref 1005, .ref 1006, .ref 1007, .ref 1008, .long u_whole, .ref 1009, .ref 1010, .ref 1011]), .inl (1, 56, .inr (.inl c_cost)), .inl (0, 8, .inl c_firstWorth), .inl (0, 8, .inl c_found), .inl (1, 36864, .inr (.inl c_least)), .inl (0, 6, .inl c_seats), .inl (0, 8, .inl c_secondWorth), .inl (1, 331776, .inr (.inl c_stand)), .inl (0, 6, .inl c_weight), .inl (0, 48, .inl c_wish)]
theorem cw_X8_findStand : CWv mu_X8_findStand 0 := ⟨⟨all_of 1021 (by decide +kernel) (by decide +kernel), all_of 9 (by decide +kernel) (by decide +kernel), by decide +kernel, by decide +kernel, by decide +kernel⟩, all_of 1020 (by decide +kernel) (by decide +kernel), all_pr 59 (by decide +kernel) (by decide +kernel)⟩
abbrev mu_X8_standing : KM := (yX8_standing, cX8_standing, 1, (some .long), { frames := 5, cells := 0, slots := 0, locals := 125 }, [], [])
def w_X8_standing (c_askers : Int32) (c_places : Int32) (c_full : Int32) (c_firsts : Int32) (c_freed : Int32) (c_cost : Nat → Int64) (c_firstWorth : Nat → Int32) (c_found : Nat → Int32) (c_least : Nat → Int64) (c_seats : Nat → Int32) (c_secondWorth : Nat → Int32) (c_stand : Nat → Int64) (c_weight : Nat → Int32) (c_wish : Nat → Int32) (u_above : Int64) (u_below : Int64) (u_whole : Int64) : List mE := [.inr (8, [.int c_askers, .int c_places, .ref 5, .ref 9, .ref 1000, .long u_above, .long u_below, .ref 8, .int c_full, .ref 1001, .ref 3, .ref 1, .ref 4, .ref 1002, .ref 1003, .int c_firsts, .ref 2, .ref 6, .int c_freed, .ref 7, .ref 1004, .ref 1005, .ref 1006, .ref 1007, .ref 1008, .long u_whole, .ref 1009, .ref 1010, .ref 1011]), .inl (1, 56, .inr (.inl c_cost)), .inl (0, 8, .inl c_firstWorth), .inl (0, 8, .inl c_found), .inl (1, 36864, .inr (.inl c_least)), .inl (0, 6, .inl c_seats), .inl (0, 8, .inl c_secondWorth), .inl (1, 331776, .inr (.inl c_stand)), .inl (0, 6, .inl c_weight), .inl (0, 48, .inl c_wish)]
theorem cw_X8_standing : CWv mu_X8_standing 0 := ⟨⟨all_of 1017 (by decide +kernel) (by decide +kernel), all_of 9 (by decide +kernel) (by decide +kernel), by decide +kernel, by decide +kernel, by decide +kernel⟩, all_of 1015 (by decide +kernel) (by decide +kernel), all_of 1016 (by decide +kernel) (by decide +kernel)⟩
abbrev mu_X8_standingAt : KM := (yX8_standingAt, cX8_standingAt, 10, (some .int), { frames := 5, cells := 0, slots := 0, locals := 125 }, [], [])
def w_X8_standingAt (c_askers : Int32) (c_places : Int32) (c_full : Int32) (c_firsts : Int32) (c_freed : Int32) (c_cost : Nat → Int64) (c_firstWorth : Nat → Int32) (c_found : Nat → Int32) (c_least : Nat → Int64) (c_seats : Nat → Int32) (c_secondWorth : Nat → Int32) (c_stand : Nat → Int64) (c_weight : Nat → Int32) (c_wish : Nat → Int32) (u_above : Int64) (u_below : Int64) (u_whole : Int64) : List mE := [.inr (8, [.int c_askers, .int c_places, .ref 5, .ref 9, .ref 1000, .long u_above, .long u_below, .ref 8, .int c_full, .ref 1001, .ref 3, .ref 1, .ref 4, .ref 1002, .ref 1003, .int c_firsts, .ref 2, .ref 6, .int c_freed, .ref 7, .ref 1004, .ref 1005, .ref 1006, .ref 1007, .ref 1008, .long u_whole, .ref 1009, .ref 1010, .ref 1011]), .inl (1, 56, .inr (.inl c_cost)), .inl (0, 8, .inl c_firstWorth), .inl (0, 8, .inl c_found), .inl (1, 36864, .inr (.inl c_least)), .inl (0, 6, .inl c_seats), .inl (0, 8, .inl c_secondWorth), .inl (1, 331776, .inr (.inl c_stand)), .inl (0, 6, .inl c_weight), .inl (0, 48, .inl c_wish)]
theorem cw_X8_standingAt : CWv mu_X8_standingAt 2 := ⟨⟨all_of 1049 (by decide +kernel) (by decide +kernel), all_of 9 (by decide +kernel) (by decide +kernel), by decide +kernel, by decide +kernel, by decide +kernel⟩, all_of 1047 (by decide +kernel) (by decide +kernel), all_of 1048 (by decide +kernel) (by decide +kernel)⟩
abbrev mu_X8_standingMany : KM := (yX8_standingMany, cX8_standingMany, 6, (some .int), { frames := 5, cells := 0, slots := 0, locals := 125 }, [], [])
def w_X8_standingMany (c_askers : Int32) (c_places : Int32) (c_full : Int32) (c_firsts : Int32) (c_freed : Int32) (c_cost : Nat → Int64) (c_firstWorth : Nat → Int32) (c_found : Nat → Int32) (c_least : Nat → Int64) (c_seats : Nat → Int32) (c_secondWorth : Nat → Int32) (c_stand : Nat → Int64) (c_weight : Nat → Int32) (c_wish : Nat → Int32) (u_above : Int64) (u_below : Int64) (u_whole : Int64) : List mE := [.inr (8, [.int c_askers, .int c_places, .ref 5, .ref 9, .ref 1000, .long u_above, .long u_below, .ref 8, .int c_full, .ref 1001, .ref 3, .ref 1, .ref 4, .ref 1002, .ref 1003, .int c_firsts, .ref 2, .ref 6, .int c_freed, .ref 7, .ref 1004, .ref 1005, .ref 1006, .ref 1007, .ref 1008, .long u_whole, .ref 1009, .ref 1010, .ref 1011]), .inl (1, 56, .inr (.inl c_cost)), .inl (0, 8, .inl c_firstWorth), .inl (0, 8, .inl c_found), .inl (1, 36864, .inr (.inl c_least)), .inl (0, 6, .inl c_seats), .inl (0, 8, .inl c_secondWorth), .inl (1, 331776, .inr (.inl c_stand)), .inl (0, 6, .inl c_weight), .inl (0, 48, .inl c_wish)]
theorem cw_X8_standingMany : CWv mu_X8_standingMany 1 := ⟨⟨all_of 1053 (by decide +kernel) (by decide +kernel), all_of 9 (by decide +kernel) (by decide +kernel), by decide +kernel, by decide +kernel, by decide +kernel⟩, all_of 1051 (by decide +kernel) (by decide +kernel), all_of 1052 (by decide +kernel) (by decide +kernel)⟩
abbrev mu_X8_turn : KM := (yX8_turn, cX8_turn, 11, (some .int), { frames := 2, cells := 0, slots := 0, locals := 53 }, [], [])
def w_X8_turn (c_askers : Int32) (c_places : Int32) (c_full : Int32) (c_cost : Nat → Int64) (c_found : Nat → Int32) (c_least : Nat → Int64) (c_seats : Nat → Int32) (c_weight : Nat → Int32) (c_wish : Nat → Int32) (u_above : Int64) (u_below : Int64) (u_firsts : Int32) (u_freed : Int32) (u_whole : Int64) : List mE := [.inr (8, [.int c_askers, .int c_places, .ref 4, .ref 6, .ref 1000, .long u_above, .long u_below, .ref 5, .int c_full, .ref 1001, .ref 2, .ref 1, .ref 3, .ref 1002, .ref 1003, .int u_firsts, .ref 1004, .ref 1005, .int u_freed, .ref 1006, .ref 1007, .ref 1008, .ref 1009, .ref 1010, .ref 1011, .long u_whole, .ref 1012, .ref 1013, .ref 1014]), .inl (1, 56, .inr (.inl c_cost)), .inl (0, 8, .inl c_found), .inl (1, 36864, .inr (.inl c_least)), .inl (0, 6, .inl c_seats), .inl (0, 6, .inl c_weight), .inl (0, 48, .inl c_wish)]
theorem cw_X8_turn : CWv mu_X8_turn 2 := ⟨⟨all_of 1058 (by decide +kernel) (by decide +kernel), all_of 9 (by decide +kernel) (by decide +kernel), by decide +kernel, by decide +kernel, by decide +kernel⟩, all_of 1056 (by decide +kernel) (by decide +kernel), all_of 1057 (by decide +kernel) (by decide +kernel)⟩
abbrev mu_X8_round : KM := (yX8_round, cX8_round, 3, (some .int), { frames := 3, cells := 0, slots := 0, locals := 77 }, [], [])
def w_X8_round (c_askers : Int32) (c_found : Nat → Int32) (c_points : Nat → Int32) (c_served : Nat → Int32) (c_told : Nat → Int32) (c_wish : Nat → Int32) (u_places : Int32) (u_above : Int64) (u_below : Int64) (u_full : Int32) (u_firsts : Int32) (u_freed : Int32) (u_whole : Int64) : List mE := [.inr (8, [.int c_askers, .int u_places, .ref 1000, .ref 5, .ref 4, .long u_above, .long u_below, .ref 1001, .int u_full, .ref 1002, .ref 1, .ref 1003, .ref 1004, .ref 1005, .ref 1006, .int u_firsts, .ref 1007, .ref 1008, .int u_freed, .ref 1009, .ref 3, .ref 2, .ref 1010, .ref 1011, .ref 1012, .long u_whole, .ref 1013, .ref 1014, .ref 1015]), .inl (0, 8, .inl c_found), .inl (0, 8, .inl c_points), .inl (0, 8, .inl c_served), .inl (0, 32, .inl c_told), .inl (0, 48, .inl c_wish)]
theorem cw_X8_round : CWv mu_X8_round 2 := ⟨⟨all_of 1063 (by decide +kernel) (by decide +kernel), all_of 9 (by decide +kernel) (by decide +kernel), by decide +kernel, by decide +kernel, by decide +kernel⟩, all_of 1061 (by decide +kernel) (by decide +kernel), all_of 1062 (by decide +kernel) (by decide +kernel)⟩
abbrev mu_X8_wants : KM := (yX8_wants, cX8_wants, 6, (some .boolean), { frames := 1, cells := 0, slots := 0, locals := 23 }, [], [])
def w_X8_wants (c_told : Nat → Int32) (c_wish : Nat → Int32) (u_askers : Int32) (u_places : Int32) (u_above : Int64) (u_below : Int64) (u_full : Int32) (u_firsts : Int32) (u_freed : Int32) (u_whole : Int64) : List mE := [.inr (8, [.int u_askers, .int u_places, .ref 1000, .ref 2, .ref 1, .long u_above, .long u_below, .ref 1001, .int u_full, .ref 1002, .ref 1003, .ref 1004, .ref 1005, .ref 1006, .ref 1007, .int u_firsts, .ref 1008, .ref 1009, .int u_freed, .ref 1010, .ref 1011, .ref 1012, .ref 1013, .ref 1014, .ref 1015, .long u_whole, .ref 1016, .ref 1017, .ref 1018]), .inl (0, 32, .inl c_told), .inl (0, 48, .inl c_wish)]
theorem cw_X8_wants : CWv mu_X8_wants 4 := ⟨⟨all_of 1079 (by decide +kernel) (by decide +kernel), all_of 9 (by decide +kernel) (by decide +kernel), by decide +kernel, by decide +kernel, by decide +kernel⟩, all_of 1078 (by decide +kernel) (by decide +kernel), all_pr 68 (by decide +kernel) (by decide +kernel)⟩
abbrev mu_X8_findCan : KM := (yX8_findCan, cX8_findCan, 10, (some .boolean), { frames := 2, cells := 0, slots := 0, locals := 48 }, [], [])
def w_X8_findCan (c_askers : Int32) (c_can : Nat → Int32) (c_told : Nat → Int32) (c_wish : Nat → Int32) (u_places : Int32) (u_above : Int64) (u_below : Int64) (u_full : Int32) (u_firsts : Int32) (u_freed : Int32) (u_whole : Int64) : List mE := [.inr (8, [.int c_askers, .int u_places, .ref 1000, .ref 3, .ref 2, .long u_above, .long u_below, .ref 1001, .int u_full, .ref 1002, .ref 1003, .ref 1004, .ref 1005, .ref 1006, .ref 1007, .int u_firsts, .ref 1008, .ref 1009, .int u_freed, .ref 1010, .ref 1011, .ref 1012, .ref 1, .ref 1013, .ref 1014, .long u_whole, .ref 1015, .ref 1016, .ref 1017]), .inl (2, 72, .inl c_can), .inl (0, 32, .inl c_told), .inl (0, 48, .inl c_wish)]
theorem cw_X8_findCan : CWv mu_X8_findCan 4 := ⟨⟨all_of 1075 (by decide +kernel) (by decide +kernel), all_of 9 (by decide +kernel) (by decide +kernel), by decide +kernel, by decide +kernel, by decide +kernel⟩, all_of 1074 (by decide +kernel) (by decide +kernel), all_pr 67 (by decide +kernel) (by decide +kernel)⟩
abbrev mu_X8_findRing : KM := (yX8_findRing, cX8_findRing, 7, (some .int), { frames := 3, cells := 0, slots := 0, locals := 77 }, [], [])
def w_X8_findRing (c_askers : Int32) (c_can : Nat → Int32) (c_ring : Nat → Int32) (c_told : Nat → Int32) (c_wish : Nat → Int32) (u_places : Int32) (u_above : Int64) (u_below : Int64) (u_full : Int32) (u_firsts : Int32) (u_freed : Int32) (u_whole : Int64) : List mE := [.inr (8, [.int c_askers, .int u_places, .ref 1000, .ref 4, .ref 3, .long u_above, .long u_below, .ref 1001, .int u_full, .ref 1002, .ref 1003, .ref 1004, .ref 1005, .ref 1006, .ref 1007, .int u_firsts, .ref 1008, .ref 1009, .int u_freed, .ref 1010, .ref 1011, .ref 1012, .ref 1, .ref 2, .ref 1013, .long u_whole, .ref 1014, .ref 1015, .ref 1016]), .inl (2, 72, .inl c_can), .inl (0, 8, .inl c_ring), .inl (0, 32, .inl c_told), .inl (0, 48, .inl c_wish)]
theorem cw_X8_findRing : CWv mu_X8_findRing 2 := ⟨⟨all_of 1071 (by decide +kernel) (by decide +kernel), all_of 9 (by decide +kernel) (by decide +kernel), by decide +kernel, by decide +kernel, by decide +kernel⟩, all_of 1070 (by decide +kernel) (by decide +kernel), all_pr 66 (by decide +kernel) (by decide +kernel)⟩
abbrev mu_X8_leaving : KM := (yX8_leaving, cX8_leaving, 5, (some .int), { frames := 4, cells := 0, slots := 0, locals := 103 }, [], [])
def w_X8_leaving (c_askers : Int32) (c_can : Nat → Int32) (c_ring : Nat → Int32) (c_told : Nat → Int32) (c_wish : Nat → Int32) (u_places : Int32) (u_above : Int64) (u_below : Int64) (u_full : Int32) (u_firsts : Int32) (u_freed : Int32) (u_whole : Int64) : List mE := [.inr (8, [.int c_askers, .int u_places, .ref 1000, .ref 4, .ref 3, .long u_above, .long u_below, .ref 1001, .int u_full, .ref 1002, .ref 1003, .ref 1004, .ref 1005, .ref 1006, .ref 1007, .int u_firsts, .ref 1008, .ref 1009, .int u_freed, .ref 1010, .ref 1011, .ref 1012, .ref 1, .ref 2, .ref 1013, .long u_whole, .ref 1014, .ref 1015, .ref 1016]), .inl (2, 72, .inl c_can), .inl (0, 8, .inl c_ring), .inl (0, 32, .inl c_told), .inl (0, 48, .inl c_wish)]
theorem cw_X8_leaving : CWv mu_X8_leaving 3 := ⟨⟨all_of 1067 (by decide +kernel) (by decide +kernel), all_of 9 (by decide +kernel) (by decide +kernel), by decide +kernel, by decide +kernel, by decide +kernel⟩, all_of 1065 (by decide +kernel) (by decide +kernel), all_of 1066 (by decide +kernel) (by decide +kernel)⟩
abbrev mu_X8_picks : KM := (yX8_picks, cX8_picks, 5, (some .int), { frames := 1, cells := 0, slots := 0, locals := 25 }, [], [])
def w_X8_picks (c_places : Int32) (c_seats : Nat → Int32) (c_weight : Nat → Int32) (c_wish : Nat → Int32) (u_askers : Int32) (u_above : Int64) (u_below : Int64) (u_full : Int32) (u_firsts : Int32) (u_freed : Int32) (u_whole : Int64) : List mE := [.inr (8, [.int u_askers, .int c_places, .ref 1, .ref 3, .ref 1000, .long u_above, .long u_below, .ref 2, .int u_full, .ref 1001, .ref 1002, .ref 1003, .ref 1004, .ref 1005, .ref 1006, .int u_firsts, .ref 1007, .ref 1008, .int u_freed, .ref 1009, .ref 1010, .ref 1011, .ref 1012, .ref 1013, .ref 1014, .long u_whole, .ref 1015, .ref 1016, .ref 1017]), .inl (0, 6, .inl c_seats), .inl (0, 6, .inl c_weight), .inl (0, 48, .inl c_wish)]
theorem cw_X8_picks : CWv mu_X8_picks 2 := ⟨⟨all_of 1087 (by decide +kernel) (by decide +kernel), all_of 9 (by decide +kernel) (by decide +kernel), by decide +kernel, by decide +kernel, by decide +kernel⟩, all_of 1086 (by decide +kernel) (by decide +kernel), all_pr 69 (by decide +kernel) (by decide +kernel)⟩
abbrev mu_X8_chance : KM := (yX8_chance, cX8_chance, 12, (some .int), { frames := 2, cells := 0, slots := 0, locals := 49 }, [], [])
def w_X8_chance (c_askers : Int32) (c_places : Int32) (c_full : Int32) (c_seats : Nat → Int32) (c_ways : Nat → Int32) (c_weight : Nat → Int32) (c_wish : Nat → Int32) (u_above : Int64) (u_below : Int64) (u_firsts : Int32) (u_freed : Int32) (u_whole : Int64) : List mE := [.inr (8, [.int c_askers, .int c_places, .ref 1, .ref 4, .ref 1000, .long u_above, .long u_below, .ref 3, .int c_full, .ref 1001, .ref 1002, .ref 1003, .ref 1004, .ref 1005, .ref 1006, .int u_firsts, .ref 1007, .ref 1008, .int u_freed, .ref 1009, .ref 1010, .ref 1011, .ref 1012, .ref 1013, .ref 2, .long u_whole, .ref 1014, .ref 1015, .ref 1016]), .inl (0, 6, .inl c_seats), .inl (0, 1048576, .inl c_ways), .inl (0, 6, .inl c_weight), .inl (0, 48, .inl c_wish)]
theorem cw_X8_chance : CWv mu_X8_chance 2 := ⟨⟨all_of 1083 (by decide +kernel) (by decide +kernel), all_of 9 (by decide +kernel) (by decide +kernel), by decide +kernel, by decide +kernel, by decide +kernel⟩, all_of 1081 (by decide +kernel) (by decide +kernel), all_of 1082 (by decide +kernel) (by decide +kernel)⟩
abbrev mu_X8_eatsOf : KM := (yX8_eatsOf, cX8_eatsOf, 5, (some .int), { frames := 0, cells := 0, slots := 0, locals := 0 }, [], [])
def w_X8_eatsOf (c_places : Int32) (c_leftOf : Nat → Int64) (c_wish : Nat → Int32) (u_askers : Int32) (u_above : Int64) (u_below : Int64) (u_full : Int32) (u_firsts : Int32) (u_freed : Int32) (u_whole : Int64) : List mE := [.inr (8, [.int u_askers, .int c_places, .ref 1000, .ref 2, .ref 1001, .long u_above, .long u_below, .ref 1002, .int u_full, .ref 1003, .ref 1004, .ref 1005, .ref 1006, .ref 1007, .ref 1008, .int u_firsts, .ref 1009, .ref 1010, .int u_freed, .ref 1011, .ref 1012, .ref 1013, .ref 1014, .ref 1015, .ref 1016, .long u_whole, .ref 1, .ref 1017, .ref 1018]), .inl (1, 6, .inr (.inl c_leftOf)), .inl (0, 48, .inl c_wish)]
theorem cw_X8_eatsOf : CWv mu_X8_eatsOf 1 := ⟨⟨all_of 1099 (by decide +kernel) (by decide +kernel), all_of 9 (by decide +kernel) (by decide +kernel), by decide +kernel, by decide +kernel, by decide +kernel⟩, all_of 1098 (by decide +kernel) (by decide +kernel), all_pr 71 (by decide +kernel) (by decide +kernel)⟩
abbrev mu_X8_eaters : KM := (yX8_eaters, cX8_eaters, 4, (some .int), { frames := 0, cells := 0, slots := 0, locals := 0 }, [], [])
def w_X8_eaters (c_askers : Int32) (c_eats : Nat → Int32) (u_places : Int32) (u_above : Int64) (u_below : Int64) (u_full : Int32) (u_firsts : Int32) (u_freed : Int32) (u_whole : Int64) : List mE := [.inr (8, [.int c_askers, .int u_places, .ref 1000, .ref 1001, .ref 1002, .long u_above, .long u_below, .ref 1003, .int u_full, .ref 1004, .ref 1005, .ref 1006, .ref 1007, .ref 1008, .ref 1009, .int u_firsts, .ref 1010, .ref 1011, .int u_freed, .ref 1012, .ref 1013, .ref 1014, .ref 1015, .ref 1016, .ref 1017, .long u_whole, .ref 1018, .ref 1019, .ref 1]), .inl (0, 8, .inl c_eats)]
theorem cw_X8_eaters : CWv mu_X8_eaters 1 := ⟨⟨all_of 1103 (by decide +kernel) (by decide +kernel), all_of 9 (by decide +kernel) (by decide +kernel), by decide +kernel, by decide +kernel, by decide +kernel⟩, all_of 1102 (by decide +kernel) (by decide +kernel), all_pr 72 (by decide +kernel) (by decide +kernel)⟩
abbrev mu_X8_findShares : KM := (yX8_findShares, cX8_findShares, 10, none, { frames := 1, cells := 0, slots := 0, locals := 24 }, [], [])
def w_X8_findShares (c_askers : Int32) (c_places : Int32) (c_whole : Int64) (c_ate : Nat → Int64) (c_eats : Nat → Int32) (c_leftOf : Nat → Int64) (c_seats : Nat → Int32) (c_wish : Nat → Int32) (u_above : Int64) (u_below : Int64) (u_full : Int32) (u_firsts : Int32) (u_freed : Int32) : List mE := [.inr (8, [.int c_askers, .int c_places, .ref 4, .ref 5, .ref 1000, .long u_above, .long u_below, .ref 1001, .int u_full, .ref 1002, .ref 1003, .ref 1004, .ref 1005, .ref 1006, .ref 1007, .int u_firsts, .ref 1008, .ref 1009, .int u_freed, .ref 1010, .ref 1011, .ref 1012, .ref 1013, .ref 1014, .ref 1015, .long c_whole, .ref 3, .ref 1, .ref 2]), .inl (1, 48, .inr (.inl c_ate)), .inl (0, 8, .inl c_eats), .inl (1, 6, .inr (.inl c_leftOf)), .inl (0, 6, .inl c_seats), .inl (0, 48, .inl c_wish)]
theorem cw_X8_findShares : CWv mu_X8_findShares 0 := ⟨⟨all_of 1095 (by decide +kernel) (by decide +kernel), all_of 9 (by decide +kernel) (by decide +kernel), by decide +kernel, by decide +kernel, by decide +kernel⟩, all_of 1094 (by decide +kernel) (by decide +kernel), all_pr 70 (by decide +kernel) (by decide +kernel)⟩
abbrev mu_X8_share : KM := (yX8_share, cX8_share, 3, (some .int), { frames := 2, cells := 0, slots := 0, locals := 55 }, [], [])
def w_X8_share (c_askers : Int32) (c_places : Int32) (c_above : Int64) (c_below : Int64) (c_whole : Int64) (c_ate : Nat → Int64) (c_eats : Nat → Int32) (c_leftOf : Nat → Int64) (c_seats : Nat → Int32) (c_wish : Nat → Int32) (u_full : Int32) (u_firsts : Int32) (u_freed : Int32) : List mE := [.inr (8, [.int c_askers, .int c_places, .ref 4, .ref 5, .ref 1000, .long c_above, .long c_below, .ref 1001, .int u_full, .ref 1002, .ref 1003, .ref 1004, .ref 1005, .ref 1006, .ref 1007, .int u_firsts, .ref 1008, .ref 1009, .int u_freed, .ref 1010, .ref 1011, .ref 1012, .ref 1013, .ref 1014, .ref 1015, .long c_whole, .ref 3, .ref 1, .ref 2]), .inl (1, 48, .inr (.inl c_ate)), .inl (0, 8, .inl c_eats), .inl (1, 6, .inr (.inl c_leftOf)), .inl (0, 6, .inl c_seats), .inl (0, 48, .inl c_wish)]
theorem cw_X8_share : CWv mu_X8_share 2 := ⟨⟨all_of 1091 (by decide +kernel) (by decide +kernel), all_of 9 (by decide +kernel) (by decide +kernel), by decide +kernel, by decide +kernel, by decide +kernel⟩, all_of 1089 (by decide +kernel) (by decide +kernel), all_of 1090 (by decide +kernel) (by decide +kernel)⟩
abbrev mu_X8_envies : KM := (yX8_envies, cX8_envies, 9, (some .int), { frames := 2, cells := 0, slots := 0, locals := 53 }, [], [])
def w_X8_envies (c_askers : Int32) (c_places : Int32) (c_whole : Int64) (c_ate : Nat → Int64) (c_eats : Nat → Int32) (c_leftOf : Nat → Int64) (c_seats : Nat → Int32) (c_wish : Nat → Int32) (u_above : Int64) (u_below : Int64) (u_full : Int32) (u_firsts : Int32) (u_freed : Int32) : List mE := [.inr (8, [.int c_askers, .int c_places, .ref 4, .ref 5, .ref 1000, .long u_above, .long u_below, .ref 1001, .int u_full, .ref 1002, .ref 1003, .ref 1004, .ref 1005, .ref 1006, .ref 1007, .int u_firsts, .ref 1008, .ref 1009, .int u_freed, .ref 1010, .ref 1011, .ref 1012, .ref 1013, .ref 1014, .ref 1015, .long c_whole, .ref 3, .ref 1, .ref 2]), .inl (1, 48, .inr (.inl c_ate)), .inl (0, 8, .inl c_eats), .inl (1, 6, .inr (.inl c_leftOf)), .inl (0, 6, .inl c_seats), .inl (0, 48, .inl c_wish)]
theorem cw_X8_envies : CWv mu_X8_envies 2 := ⟨⟨all_of 1107 (by decide +kernel) (by decide +kernel), all_of 9 (by decide +kernel) (by decide +kernel), by decide +kernel, by decide +kernel, by decide +kernel⟩, all_of 1105 (by decide +kernel) (by decide +kernel), all_of 1106 (by decide +kernel) (by decide +kernel)⟩
abbrev mu_X8_countOf : KM := (yX8_countOf, cX8_countOf, 4, (some .int), { frames := 0, cells := 0, slots := 0, locals := 0 }, [], [])
def w_X8_countOf (c_askers : Int32) (c_places : Int32) (c_seats : Nat → Int32) (c_wish : Nat → Int32) (u_above : Int64) (u_below : Int64) (u_full : Int32) (u_firsts : Int32) (u_freed : Int32) (u_whole : Int64) : List mE := [.inr (8, [.int c_askers, .int c_places, .ref 1, .ref 2, .ref 1000, .long u_above, .long u_below, .ref 1001, .int u_full, .ref 1002, .ref 1003, .ref 1004, .ref 1005, .ref 1006, .ref 1007, .int u_firsts, .ref 1008, .ref 1009, .int u_freed, .ref 1010, .ref 1011, .ref 1012, .ref 1013, .ref 1014, .ref 1015, .long u_whole, .ref 1016, .ref 1017, .ref 1018]), .inl (0, 6, .inl c_seats), .inl (0, 48, .inl c_wish)]
theorem cw_X8_countOf : CWv mu_X8_countOf 1 := ⟨⟨all_of 1115 (by decide +kernel) (by decide +kernel), all_of 9 (by decide +kernel) (by decide +kernel), by decide +kernel, by decide +kernel, by decide +kernel⟩, all_of 1114 (by decide +kernel) (by decide +kernel), all_pr 73 (by decide +kernel) (by decide +kernel)⟩
abbrev mu_X8_count : KM := (yX8_count, cX8_count, 2, (some .int), { frames := 1, cells := 0, slots := 0, locals := 23 }, [], [])
def w_X8_count (c_askers : Int32) (c_places : Int32) (c_seats : Nat → Int32) (c_wish : Nat → Int32) (u_above : Int64) (u_below : Int64) (u_full : Int32) (u_firsts : Int32) (u_freed : Int32) (u_whole : Int64) : List mE := [.inr (8, [.int c_askers, .int c_places, .ref 1, .ref 2, .ref 1000, .long u_above, .long u_below, .ref 1001, .int u_full, .ref 1002, .ref 1003, .ref 1004, .ref 1005, .ref 1006, .ref 1007, .int u_firsts, .ref 1008, .ref 1009, .int u_freed, .ref 1010, .ref 1011, .ref 1012, .ref 1013, .ref 1014, .ref 1015, .long u_whole, .ref 1016, .ref 1017, .ref 1018]), .inl (0, 6, .inl c_seats), .inl (0, 48, .inl c_wish)]
theorem cw_X8_count : CWv mu_X8_count 1 := ⟨⟨all_of 1111 (by decide +kernel) (by decide +kernel), all_of 9 (by decide +kernel) (by decide +kernel), by decide +kernel, by decide +kernel, by decide +kernel⟩, all_of 1109 (by decide +kernel) (by decide +kernel), all_of 1110 (by decide +kernel) (by decide +kernel)⟩
abbrev mu_X8_digest : KM := (yX8_digest, cX8_digest, 5, (some .long), { frames := 1, cells := 0, slots := 0, locals := 23 }, [], [])
def w_X8_digest (c_askers : Int32) (c_places : Int32) (c_above : Int64) (c_below : Int64) (c_seats : Nat → Int32) (c_told : Nat → Int32) (c_wish : Nat → Int32) (u_full : Int32) (u_firsts : Int32) (u_freed : Int32) (u_whole : Int64) : List mE := [.inr (8, [.int c_askers, .int c_places, .ref 1, .ref 3, .ref 2, .long c_above, .long c_below, .ref 1000, .int u_full, .ref 1001, .ref 1002, .ref 1003, .ref 1004, .ref 1005, .ref 1006, .int u_firsts, .ref 1007, .ref 1008, .int u_freed, .ref 1009, .ref 1010, .ref 1011, .ref 1012, .ref 1013, .ref 1014, .long u_whole, .ref 1015, .ref 1016, .ref 1017]), .inl (0, 6, .inl c_seats), .inl (0, 32, .inl c_told), .inl (0, 48, .inl c_wish)]
theorem cw_X8_digest : CWv mu_X8_digest 0 := ⟨⟨all_of 1119 (by decide +kernel) (by decide +kernel), all_of 9 (by decide +kernel) (by decide +kernel), by decide +kernel, by decide +kernel, by decide +kernel⟩, all_of 1117 (by decide +kernel) (by decide +kernel), all_of 1118 (by decide +kernel) (by decide +kernel)⟩
set_option maxRecDepth 20000 in
theorem dX8_findStand_0 : decode cX8_findStand 0 = .ok (.aload_n 0, 1) := by decide +kernel
set_option maxRecDepth 20000 in
theorem dX8_findStand_1 : decode cX8_findStand 1 = .ok (.invokevirtual 184, 3) := by decide +kernel
set_option maxRecDepth 20000 in
theorem dX8_findStand_4 : decode cX8_findStand 4 = .ok (.aload_n 0, 1) := by decide +kernel
set_option maxRecDepth 20000 in
theorem dX8_findStand_5 : decode cX8_findStand 5 = .ok (.invokevirtual 117, 3) := by decide +kernel
set_option maxRecDepth 20000 in
theorem dX8_findStand_8 : decode cX8_findStand 8 = .ok (.iconst 0, 1) := by decide +kernel
set_option maxRecDepth 20000 in
theorem dX8_findStand_9 : decode cX8_findStand 9 = .ok (.istore_n 1, 1) := by decide +kernel
set_option maxRecDepth 20000 in
theorem dX8_findStand_10 : decode cX8_findStand 10 = .ok (.iload_n 1, 1) := by decide +kernel
set_option maxRecDepth 20000 in
theorem dX8_findStand_11 : decode cX8_findStand 11 = .ok (.bipush 9, 2) := by decide +kernel
set_option maxRecDepth 20000 in
theorem dX8_findStand_13 : decode cX8_findStand 13 = .ok (.if_icmp .ge 49, 3) := by decide +kernel
set_option maxRecDepth 20000 in
theorem dX8_findStand_16 : decode cX8_findStand 16 = .ok (.iconst 0, 1) := by decide +kernel
set_option maxRecDepth 20000 in
theorem dX8_findStand_17 : decode cX8_findStand 17 = .ok (.istore_n 2, 1) := by decide +kernel
set_option maxRecDepth 20000 in
theorem dX8_findStand_18 : decode cX8_findStand 18 = .ok (.iload_n 2, 1) := by decide +kernel
set_option maxRecDepth 20000 in
theorem dX8_findStand_19 : decode cX8_findStand 19 = .ok (.aload_n 0, 1) := by decide +kernel
set_option maxRecDepth 20000 in
theorem dX8_findStand_20 : decode cX8_findStand 20 = .ok (.getfield 114, 3) := by decide +kernel
set_option maxRecDepth 20000 in
theorem dX8_findStand_23 : decode cX8_findStand 23 = .ok (.if_icmp .gt 33, 3) := by decide +kernel
set_option maxRecDepth 20000 in
theorem dX8_findStand_26 : decode cX8_findStand 26 = .ok (.aload_n 0, 1) := by decide +kernel
set_option maxRecDepth 20000 in
theorem dX8_findStand_27 : decode cX8_findStand 27 = .ok (.getfield 49, 3) := by decide +kernel
set_option maxRecDepth 20000 in
theorem dX8_findStand_30 : decode cX8_findStand 30 = .ok (.aload_n 0, 1) := by decide +kernel
set_option maxRecDepth 20000 in
theorem dX8_findStand_31 : decode cX8_findStand 31 = .ok (.aload_n 0, 1) := by decide +kernel
set_option maxRecDepth 20000 in
theorem dX8_findStand_32 : decode cX8_findStand 32 = .ok (.getfield 89, 3) := by decide +kernel
set_option maxRecDepth 20000 in
theorem dX8_findStand_35 : decode cX8_findStand 35 = .ok (.iload_n 1, 1) := by decide +kernel
set_option maxRecDepth 20000 in
theorem dX8_findStand_36 : decode cX8_findStand 36 = .ok (.iload_n 2, 1) := by decide +kernel
set_option maxRecDepth 20000 in
theorem dX8_findStand_37 : decode cX8_findStand 37 = .ok (.invokevirtual 187, 3) := by decide +kernel
set_option maxRecDepth 20000 in
theorem dX8_findStand_40 : decode cX8_findStand 40 = .ok (.iload_n 1, 1) := by decide +kernel
set_option maxRecDepth 20000 in
theorem dX8_findStand_41 : decode cX8_findStand 41 = .ok (.ifCond .ne 7, 3) := by decide +kernel
set_option maxRecDepth 20000 in
theorem dX8_findStand_44 : decode cX8_findStand 44 = .ok (.lconst 1, 1) := by decide +kernel
set_option maxRecDepth 20000 in
theorem dX8_findStand_45 : decode cX8_findStand 45 = .ok (.goto 4, 3) := by decide +kernel
set_option maxRecDepth 20000 in
theorem dX8_findStand_48 : decode cX8_findStand 48 = .ok (.lconst 0, 1) := by decide +kernel
set_option maxRecDepth 20000 in
theorem dX8_findStand_49 : decode cX8_findStand 49 = .ok (.lastore, 1) := by decide +kernel
set_option maxRecDepth 20000 in
theorem dX8_findStand_50 : decode cX8_findStand 50 = .ok (.iinc 2 1, 3) := by decide +kernel
set_option maxRecDepth 20000 in
theorem dX8_findStand_53 : decode cX8_findStand 53 = .ok (.goto (-35), 3) := by decide +kernel
set_option maxRecDepth 20000 in
theorem dX8_findStand_56 : decode cX8_findStand 56 = .ok (.iinc 1 1, 3) := by decide +kernel
set_option maxRecDepth 20000 in
theorem dX8_findStand_59 : decode cX8_findStand 59 = .ok (.goto (-49), 3) := by decide +kernel
set_option maxRecDepth 20000 in
theorem dX8_findStand_62 : decode cX8_findStand 62 = .ok (.aload_n 0, 1) := by decide +kernel
set_option maxRecDepth 20000 in
theorem dX8_findStand_63 : decode cX8_findStand 63 = .ok (.getfield 89, 3) := by decide +kernel
set_option maxRecDepth 20000 in
theorem dX8_findStand_66 : decode cX8_findStand 66 = .ok (.iconst 1, 1) := by decide +kernel
set_option maxRecDepth 20000 in
theorem dX8_findStand_67 : decode cX8_findStand 67 = .ok (.isub, 1) := by decide +kernel
set_option maxRecDepth 20000 in
theorem dX8_findStand_68 : decode cX8_findStand 68 = .ok (.istore_n 1, 1) := by decide +kernel
set_option maxRecDepth 20000 in
theorem dX8_findStand_69 : decode cX8_findStand 69 = .ok (.iload_n 1, 1) := by decide +kernel
set_option maxRecDepth 20000 in
theorem dX8_findStand_70 : decode cX8_findStand 70 = .ok (.ifCond .lt 88, 3) := by decide +kernel
set_option maxRecDepth 20000 in
theorem dX8_findStand_73 : decode cX8_findStand 73 = .ok (.iconst 0, 1) := by decide +kernel
set_option maxRecDepth 20000 in
theorem dX8_findStand_74 : decode cX8_findStand 74 = .ok (.istore_n 2, 1) := by decide +kernel
set_option maxRecDepth 20000 in
theorem dX8_findStand_75 : decode cX8_findStand 75 = .ok (.iload_n 2, 1) := by decide +kernel
set_option maxRecDepth 20000 in
theorem dX8_findStand_76 : decode cX8_findStand 76 = .ok (.bipush 9, 2) := by decide +kernel
set_option maxRecDepth 20000 in
theorem dX8_findStand_78 : decode cX8_findStand 78 = .ok (.if_icmp .ge 74, 3) := by decide +kernel
set_option maxRecDepth 20000 in
theorem dX8_findStand_81 : decode cX8_findStand 81 = .ok (.iconst 0, 1) := by decide +kernel
set_option maxRecDepth 20000 in
theorem dX8_findStand_82 : decode cX8_findStand 82 = .ok (.istore_n 3, 1) := by decide +kernel
set_option maxRecDepth 20000 in
theorem dX8_findStand_83 : decode cX8_findStand 83 = .ok (.iload_n 3, 1) := by decide +kernel
set_option maxRecDepth 20000 in
theorem dX8_findStand_84 : decode cX8_findStand 84 = .ok (.aload_n 0, 1) := by decide +kernel
set_option maxRecDepth 20000 in
theorem dX8_findStand_85 : decode cX8_findStand 85 = .ok (.getfield 114, 3) := by decide +kernel
set_option maxRecDepth 20000 in
theorem dX8_findStand_88 : decode cX8_findStand 88 = .ok (.if_icmp .gt 58, 3) := by decide +kernel
set_option maxRecDepth 20000 in
theorem dX8_findStand_91 : decode cX8_findStand 91 = .ok (.lconst 0, 1) := by decide +kernel
set_option maxRecDepth 20000 in
theorem dX8_findStand_92 : decode cX8_findStand 92 = .ok (.lstore 4, 2) := by decide +kernel
set_option maxRecDepth 20000 in
theorem dX8_findStand_94 : decode cX8_findStand 94 = .ok (.iconst 0, 1) := by decide +kernel
set_option maxRecDepth 20000 in
theorem dX8_findStand_95 : decode cX8_findStand 95 = .ok (.istore 6, 2) := by decide +kernel
set_option maxRecDepth 20000 in
theorem dX8_findStand_97 : decode cX8_findStand 97 = .ok (.iload 6, 2) := by decide +kernel
set_option maxRecDepth 20000 in
theorem dX8_findStand_99 : decode cX8_findStand 99 = .ok (.aload_n 0, 1) := by decide +kernel
set_option maxRecDepth 20000 in
theorem dX8_findStand_100 : decode cX8_findStand 100 = .ok (.getfield 97, 3) := by decide +kernel
set_option maxRecDepth 20000 in
theorem dX8_findStand_103 : decode cX8_findStand 103 = .ok (.if_icmp .gt 23, 3) := by decide +kernel
set_option maxRecDepth 20000 in
theorem dX8_findStand_106 : decode cX8_findStand 106 = .ok (.lload 4, 2) := by decide +kernel
set_option maxRecDepth 20000 in
theorem dX8_findStand_108 : decode cX8_findStand 108 = .ok (.aload_n 0, 1) := by decide +kernel
set_option maxRecDepth 20000 in
theorem dX8_findStand_109 : decode cX8_findStand 109 = .ok (.iload_n 1, 1) := by decide +kernel
set_option maxRecDepth 20000 in
theorem dX8_findStand_110 : decode cX8_findStand 110 = .ok (.iload 6, 2) := by decide +kernel
set_option maxRecDepth 20000 in
theorem dX8_findStand_112 : decode cX8_findStand 112 = .ok (.iload_n 2, 1) := by decide +kernel
set_option maxRecDepth 20000 in
theorem dX8_findStand_113 : decode cX8_findStand 113 = .ok (.iload_n 3, 1) := by decide +kernel
set_option maxRecDepth 20000 in
theorem dX8_findStand_114 : decode cX8_findStand 114 = .ok (.invokevirtual 190, 3) := by decide +kernel
set_option maxRecDepth 20000 in
theorem dX8_findStand_117 : decode cX8_findStand 117 = .ok (.ladd, 1) := by decide +kernel
set_option maxRecDepth 20000 in
theorem dX8_findStand_118 : decode cX8_findStand 118 = .ok (.lstore 4, 2) := by decide +kernel
set_option maxRecDepth 20000 in
theorem dX8_findStand_120 : decode cX8_findStand 120 = .ok (.iinc 6 1, 3) := by decide +kernel
set_option maxRecDepth 20000 in
theorem dX8_findStand_123 : decode cX8_findStand 123 = .ok (.goto (-26), 3) := by decide +kernel
set_option maxRecDepth 20000 in
theorem dX8_findStand_126 : decode cX8_findStand 126 = .ok (.aload_n 0, 1) := by decide +kernel
set_option maxRecDepth 20000 in
theorem dX8_findStand_127 : decode cX8_findStand 127 = .ok (.getfield 49, 3) := by decide +kernel
set_option maxRecDepth 20000 in
theorem dX8_findStand_130 : decode cX8_findStand 130 = .ok (.aload_n 0, 1) := by decide +kernel
set_option maxRecDepth 20000 in
theorem dX8_findStand_131 : decode cX8_findStand 131 = .ok (.iload_n 1, 1) := by decide +kernel
set_option maxRecDepth 20000 in
theorem dX8_findStand_132 : decode cX8_findStand 132 = .ok (.iload_n 2, 1) := by decide +kernel
set_option maxRecDepth 20000 in
theorem dX8_findStand_133 : decode cX8_findStand 133 = .ok (.iload_n 3, 1) := by decide +kernel
set_option maxRecDepth 20000 in
theorem dX8_findStand_134 : decode cX8_findStand 134 = .ok (.invokevirtual 187, 3) := by decide +kernel
set_option maxRecDepth 20000 in
theorem dX8_findStand_137 : decode cX8_findStand 137 = .ok (.lload 4, 2) := by decide +kernel
set_option maxRecDepth 20000 in
theorem dX8_findStand_139 : decode cX8_findStand 139 = .ok (.lastore, 1) := by decide +kernel
set_option maxRecDepth 20000 in
theorem dX8_findStand_140 : decode cX8_findStand 140 = .ok (.iinc 3 1, 3) := by decide +kernel
set_option maxRecDepth 20000 in
theorem dX8_findStand_143 : decode cX8_findStand 143 = .ok (.goto (-60), 3) := by decide +kernel
set_option maxRecDepth 20000 in
theorem dX8_findStand_146 : decode cX8_findStand 146 = .ok (.iinc 2 1, 3) := by decide +kernel
set_option maxRecDepth 20000 in
theorem dX8_findStand_149 : decode cX8_findStand 149 = .ok (.goto (-74), 3) := by decide +kernel
set_option maxRecDepth 20000 in
theorem dX8_findStand_152 : decode cX8_findStand 152 = .ok (.iinc 1 (-1), 3) := by decide +kernel
set_option maxRecDepth 20000 in
theorem dX8_findStand_155 : decode cX8_findStand 155 = .ok (.goto (-86), 3) := by decide +kernel
set_option maxRecDepth 20000 in
theorem dX8_findStand_158 : decode cX8_findStand 158 = .ok (.return_, 1) := by decide +kernel
def f_X8_findStand_97 (N : Nat) (c_askers : Int32) (c_places : Int32) (c_wish : Nat → Int32) (k83 : Int32 → Int32 → Int32 → (Nat → Int64) → (Nat → Int32) → (Nat → Int32) → (Nat → Int64) → (Nat → Int32) → (Nat → Int32) → (Nat → Int64) → (Nat → Int32) → Int32 → Int32 → Int32 → Option (Int32 × Int32 × Int32 × (Nat → Int64) × (Nat → Int32) × (Nat → Int32) × (Nat → Int64) × (Nat → Int32) × (Nat → Int32) × (Nat → Int64) × (Nat → Int32))) : Nat → Int32 → Int32 → Int32 → (Nat → Int64) → (Nat → Int32) → (Nat → Int32) → (Nat → Int64) → (Nat → Int32) → (Nat → Int32) → (Nat → Int64) → (Nat → Int32) → Int32 → Int32 → Int32 → Int64 → Int32 → Option (Int32 × Int32 × Int32 × (Nat → Int64) × (Nat → Int32) × (Nat → Int32) × (Nat → Int64) × (Nat → Int32) × (Nat → Int32) × (Nat → Int64) × (Nat → Int32))
  | 0, _, _, _, _, _, _, _, _, _, _, _, _, _, _, _, _ => none
  | n + 1, c_full, c_firsts, c_freed, c_cost, c_firstWorth, c_found, c_least, c_seats, c_secondWorth, c_stand, c_weight, v1, v2, v3, v4, v6 =>
    (if c_places < v6 then
      (f_X8_standAt N v1 v2 v3).bind fun r2 =>
      (wrL 331776 c_stand r2 v4).bind fun t4 =>
      k83 c_full c_firsts c_freed c_cost c_firstWorth c_found c_least c_seats c_secondWorth t4 c_weight v1 v2 (v3 + 1)
    else
      (f_X8_standOn N c_places c_freed c_firstWorth c_seats c_secondWorth c_stand c_weight c_wish v1 v6 v2 v3).bind fun r5 =>
      f_X8_findStand_97 N c_askers c_places c_wish k83 n c_full c_firsts c_freed c_cost c_firstWorth c_found c_least c_seats c_secondWorth c_stand c_weight v1 v2 v3 (v4 + r5) (v6 + 1))
set_option maxHeartbeats 4000000 in
set_option maxRecDepth 100000 in
theorem g_X8_findStand_97 {κ : KC} {ω : KW} {A : Nat → Prop} {ad : Nat → Nat} {u_above : Int64} {u_below : Int64} {u_whole : Int64} {N : Nat} {c_askers : Int32} {c_places : Int32} {c_wish : Nat → Int32}  {k83 : Int32 → Int32 → Int32 → (Nat → Int64) → (Nat → Int32) → (Nat → Int32) → (Nat → Int64) → (Nat → Int32) → (Nat → Int32) → (Nat → Int64) → (Nat → Int32) → Int32 → Int32 → Int32 → Option (Int32 × Int32 × Int32 × (Nat → Int64) × (Nat → Int32) × (Nat → Int32) × (Nat → Int64) × (Nat → Int32) × (Nat → Int32) × (Nat → Int64) × (Nat → Int32))} {res : Int32 × Int32 × Int32 × (Nat → Int64) × (Nat → Int32) × (Nat → Int32) × (Nat → Int64) × (Nat → Int32) × (Nat → Int32) × (Nat → Int64) × (Nat → Int32)} (hk83 : ∀ {c_full : Int32} {c_firsts : Int32} {c_freed : Int32} {c_cost : Nat → Int64} {c_firstWorth : Nat → Int32} {c_found : Nat → Int32} {c_least : Nat → Int64} {c_seats : Nat → Int32} {c_secondWorth : Nat → Int32} {c_stand : Nat → Int64} {c_weight : Nat → Int32} {v1 : Int32} {v2 : Int32} {v3 : Int32}, k83 c_full c_firsts c_freed c_cost c_firstWorth c_found c_least c_seats c_secondWorth c_stand c_weight v1 v2 v3 = some res → GG mu_X8_findStand κ ω A (QR κ ω A ad (none) (w_X8_findStand c_askers c_places res.1 res.2.1 res.2.2.1 res.2.2.2.1 res.2.2.2.2.1 res.2.2.2.2.2.1 res.2.2.2.2.2.2.1 res.2.2.2.2.2.2.2.1 res.2.2.2.2.2.2.2.2.1 res.2.2.2.2.2.2.2.2.2.1 res.2.2.2.2.2.2.2.2.2.2 c_wish u_above u_below u_whole)) ad 0 0 83 (w_X8_findStand c_askers c_places c_full c_firsts c_freed c_cost c_firstWorth c_found c_least c_seats c_secondWorth c_stand c_weight c_wish u_above u_below u_whole) [some (.ref 0), some (.int v1), some (.int v2), some (.int v3), none, none, none] []) : ∀ (n : Nat) {c_full : Int32} {c_firsts : Int32} {c_freed : Int32} {c_cost : Nat → Int64} {c_firstWorth : Nat → Int32} {c_found : Nat → Int32} {c_least : Nat → Int64} {c_seats : Nat → Int32} {c_secondWorth : Nat → Int32} {c_stand : Nat → Int64} {c_weight : Nat → Int32} {v1 : Int32} {v2 : Int32} {v3 : Int32} {v4 : Int64} {v6 : Int32}, f_X8_findStand_97 N c_askers c_places c_wish k83 n c_full c_firsts c_freed c_cost c_firstWorth c_found c_least c_seats c_secondWorth c_stand c_weight v1 v2 v3 v4 v6 = some res → GG mu_X8_findStand κ ω A (QR κ ω A ad (none) (w_X8_findStand c_askers c_places res.1 res.2.1 res.2.2.1 res.2.2.2.1 res.2.2.2.2.1 res.2.2.2.2.2.1 res.2.2.2.2.2.2.1 res.2.2.2.2.2.2.2.1 res.2.2.2.2.2.2.2.2.1 res.2.2.2.2.2.2.2.2.2.1 res.2.2.2.2.2.2.2.2.2.2 c_wish u_above u_below u_whole)) ad 0 0 97 (w_X8_findStand c_askers c_places c_full c_firsts c_freed c_cost c_firstWorth c_found c_least c_seats c_secondWorth c_stand c_weight c_wish u_above u_below u_whole) [some (.ref 0), some (.int v1), some (.int v2), some (.int v3), some (.long v4), none, some (.int v6)] [] := by
  intro n
  induction n with
  | zero => intro c_full c_firsts c_freed c_cost c_firstWorth c_found c_least c_seats c_secondWorth c_stand c_weight v1 v2 v3 v4 v6 hf; exact ob_0 hf
  | succ n ih =>
    intro c_full c_firsts c_freed c_cost c_firstWorth c_found c_least c_seats c_secondWorth c_stand c_weight v1 v2 v3 v4 v6 hf
    refine G_iload dX8_findStand_97 rfl ?_
    refine G_aload_n dX8_findStand_99 rfl rfl ?_
    refine G_get (v := .int c_places) F_X8_97 dX8_findStand_100 rfl rfl ?_
    refine G_icmp_gt 126 dX8_findStand_103 (by decide) (fun h1 => ?_) (fun h1 => ?_)
    · replace hf := ob_t h1 hf
      refine G_aload_n dX8_findStand_126 rfl rfl ?_
      refine G_get (v := .ref 7) F_X8_49 dX8_findStand_127 rfl rfl ?_
      refine G_aload_n dX8_findStand_130 rfl rfl ?_
      refine G_iload_n dX8_findStand_131 rfl rfl ?_
      refine G_iload_n dX8_findStand_132 rfl rfl ?_
      refine G_iload_n dX8_findStand_133 rfl rfl ?_
      obtain ⟨r2, hc3, hf⟩ := ob hf
      refine G_callV (μ2 := mu_X8_standAt) (As := [.int v1, .int v2, .int v3]) (w2 := (w_X8_findStand c_askers c_places c_full c_firsts c_freed c_cost c_firstWorth c_found c_least c_seats c_secondWorth c_stand c_weight c_wish u_above u_below u_whole)) (wc := (w_X8_standAt c_askers c_places u_above u_below c_full c_firsts c_freed u_whole)) (wc2 := (w_X8_standAt c_askers c_places u_above u_below c_full c_firsts c_freed u_whole)) (rest := [.ref 7]) (rv := [.int r2]) [0] [5, 9, 1000, 8, 1001, 3, 1, 4, 1002, 1003, 2, 6, 7, 1004, 1005, 1006, 1007, 1008, 1009, 1010, 1011] [1, 2, 3, 4, 5, 6, 7, 8, 9] [9, 0, 1, 2, 3, 4, 5, 6, 7, 8] (c_X8_standAt hc3) cw_X8_standAt m_X8_187 dX8_findStand_134 rfl ⟨leb rfl, leb rfl⟩ ⟨rfl, rfl⟩ rfl ⟨_, rfl, rfl⟩ (Fit.mk rfl rfl rfl) rfl (leb rfl) (ROsub.nil rfl rfl) rfl ?_
      change GG _ _ _ _ _ _ _ _ _ (w_X8_findStand c_askers c_places c_full c_firsts c_freed c_cost c_firstWorth c_found c_least c_seats c_secondWorth c_stand c_weight c_wish u_above u_below u_whole) [some (.ref 0), some (.int v1), some (.int v2), some (.int v3), some (.long v4), none, some (.int v6)] [.int r2, .ref 7]
      refine G_lload dX8_findStand_137 rfl ?_
      obtain ⟨t4, ht4, hf⟩ := ob hf
      refine G_last (w2 := (w_X8_findStand c_askers c_places c_full c_firsts c_freed c_cost c_firstWorth c_found c_least c_seats c_secondWorth t4 c_weight c_wish u_above u_below u_whole)) dX8_findStand_139 rfl ht4 rfl ?_
      refine G_iinc 1 dX8_findStand_140 (by decide) rfl (ltb rfl) ?_
      change GG _ _ _ _ _ _ _ _ _ _ [some (.ref 0), some (.int v1), some (.int v2), some (.int (v3 + 1)), some (.long v4), none, some (.int v6)] _
      refine G_goto 83 dX8_findStand_143 (by decide) ?_
      refine GG.sb (lv2 := [some (.ref 0), some (.int v1), some (.int v2), some (.int (v3 + 1)), none, none, none]) ?_ (lvS_v rfl (lvS_v rfl (lvS_v rfl (lvS_v rfl (lvS_n (lvS_n (lvS_n (lvS_e))))))))
      exact hk83 hf
    · replace hf := ob_f h1 hf
      refine G_lload dX8_findStand_106 rfl ?_
      refine G_aload_n dX8_findStand_108 rfl rfl ?_
      refine G_iload_n dX8_findStand_109 rfl rfl ?_
      refine G_iload dX8_findStand_110 rfl ?_
      refine G_iload_n dX8_findStand_112 rfl rfl ?_
      refine G_iload_n dX8_findStand_113 rfl rfl ?_
      obtain ⟨r5, hc6, hf⟩ := ob hf
      refine G_callV (μ2 := mu_X8_standOn) (As := [.int v1, .int v6, .int v2, .int v3]) (w2 := (w_X8_findStand c_askers c_places c_full c_firsts c_freed c_cost c_firstWorth c_found c_least c_seats c_secondWorth c_stand c_weight c_wish u_above u_below u_whole)) (wc := (w_X8_standOn c_places c_freed c_firstWorth c_seats c_secondWorth c_stand c_weight c_wish c_askers u_above u_below c_full c_firsts u_whole)) (wc2 := (w_X8_standOn c_places c_freed c_firstWorth c_seats c_secondWorth c_stand c_weight c_wish c_askers u_above u_below c_full c_firsts u_whole)) (rest := [.long v4]) (rv := [.long r5]) [0, 2, 5, 6, 7, 8, 9] [1000, 1001, 3, 1, 4, 1002, 1003, 1004, 1005, 1006, 1007, 1008, 1009, 1010, 1011] [1, 3, 4] [3, 0, 4, 1, 2, 5, 6, 7, 8, 9] (c_X8_standOn hc6) cw_X8_standOn m_X8_190 dX8_findStand_114 rfl ⟨leb rfl, leb rfl⟩ ⟨rfl, rfl⟩ rfl ⟨_, rfl, rfl⟩ (Fit.mk rfl rfl rfl) rfl (leb rfl) (ROsub.nil rfl rfl) rfl ?_
      change GG _ _ _ _ _ _ _ _ _ (w_X8_findStand c_askers c_places c_full c_firsts c_freed c_cost c_firstWorth c_found c_least c_seats c_secondWorth c_stand c_weight c_wish u_above u_below u_whole) [some (.ref 0), some (.int v1), some (.int v2), some (.int v3), some (.long v4), none, some (.int v6)] [.long r5, .long v4]
      refine G_ladd dX8_findStand_117 ?_
      refine G_lstore dX8_findStand_118 (ltb rfl) ?_
      change GG _ _ _ _ _ _ _ _ _ _ [some (.ref 0), some (.int v1), some (.int v2), some (.int v3), some (.long (v4 + r5)), none, some (.int v6)] _
      refine G_iinc 1 dX8_findStand_120 (by decide) rfl (ltb rfl) ?_
      change GG _ _ _ _ _ _ _ _ _ _ [some (.ref 0), some (.int v1), some (.int v2), some (.int v3), some (.long (v4 + r5)), none, some (.int (v6 + 1))] _
      refine G_goto 97 dX8_findStand_123 (by decide) ?_
      exact ih hf
def f_X8_findStand_83 (N : Nat) (c_askers : Int32) (c_places : Int32) (c_wish : Nat → Int32) (k75 : Int32 → Int32 → Int32 → (Nat → Int64) → (Nat → Int32) → (Nat → Int32) → (Nat → Int64) → (Nat → Int32) → (Nat → Int32) → (Nat → Int64) → (Nat → Int32) → Int32 → Int32 → Option (Int32 × Int32 × Int32 × (Nat → Int64) × (Nat → Int32) × (Nat → Int32) × (Nat → Int64) × (Nat → Int32) × (Nat → Int32) × (Nat → Int64) × (Nat → Int32))) : Nat → Int32 → Int32 → Int32 → (Nat → Int64) → (Nat → Int32) → (Nat → Int32) → (Nat → Int64) → (Nat → Int32) → (Nat → Int32) → (Nat → Int64) → (Nat → Int32) → Int32 → Int32 → Int32 → Option (Int32 × Int32 × Int32 × (Nat → Int64) × (Nat → Int32) × (Nat → Int32) × (Nat → Int64) × (Nat → Int32) × (Nat → Int32) × (Nat → Int64) × (Nat → Int32))
  | 0, _, _, _, _, _, _, _, _, _, _, _, _, _, _ => none
  | n + 1, c_full, c_firsts, c_freed, c_cost, c_firstWorth, c_found, c_least, c_seats, c_secondWorth, c_stand, c_weight, v1, v2, v3 =>
    (if c_full < v3 then
      k75 c_full c_firsts c_freed c_cost c_firstWorth c_found c_least c_seats c_secondWorth c_stand c_weight v1 (v2 + 1)
    else
      f_X8_findStand_97 N c_askers c_places c_wish (f_X8_findStand_83 N c_askers c_places c_wish k75 n) N c_full c_firsts c_freed c_cost c_firstWorth c_found c_least c_seats c_secondWorth c_stand c_weight v1 v2 v3 0 0)
set_option maxHeartbeats 4000000 in
set_option maxRecDepth 100000 in
theorem g_X8_findStand_83 {κ : KC} {ω : KW} {A : Nat → Prop} {ad : Nat → Nat} {u_above : Int64} {u_below : Int64} {u_whole : Int64} {N : Nat} {c_askers : Int32} {c_places : Int32} {c_wish : Nat → Int32}  {k75 : Int32 → Int32 → Int32 → (Nat → Int64) → (Nat → Int32) → (Nat → Int32) → (Nat → Int64) → (Nat → Int32) → (Nat → Int32) → (Nat → Int64) → (Nat → Int32) → Int32 → Int32 → Option (Int32 × Int32 × Int32 × (Nat → Int64) × (Nat → Int32) × (Nat → Int32) × (Nat → Int64) × (Nat → Int32) × (Nat → Int32) × (Nat → Int64) × (Nat → Int32))} {res : Int32 × Int32 × Int32 × (Nat → Int64) × (Nat → Int32) × (Nat → Int32) × (Nat → Int64) × (Nat → Int32) × (Nat → Int32) × (Nat → Int64) × (Nat → Int32)} (hk75 : ∀ {c_full : Int32} {c_firsts : Int32} {c_freed : Int32} {c_cost : Nat → Int64} {c_firstWorth : Nat → Int32} {c_found : Nat → Int32} {c_least : Nat → Int64} {c_seats : Nat → Int32} {c_secondWorth : Nat → Int32} {c_stand : Nat → Int64} {c_weight : Nat → Int32} {v1 : Int32} {v2 : Int32}, k75 c_full c_firsts c_freed c_cost c_firstWorth c_found c_least c_seats c_secondWorth c_stand c_weight v1 v2 = some res → GG mu_X8_findStand κ ω A (QR κ ω A ad (none) (w_X8_findStand c_askers c_places res.1 res.2.1 res.2.2.1 res.2.2.2.1 res.2.2.2.2.1 res.2.2.2.2.2.1 res.2.2.2.2.2.2.1 res.2.2.2.2.2.2.2.1 res.2.2.2.2.2.2.2.2.1 res.2.2.2.2.2.2.2.2.2.1 res.2.2.2.2.2.2.2.2.2.2 c_wish u_above u_below u_whole)) ad 0 0 75 (w_X8_findStand c_askers c_places c_full c_firsts c_freed c_cost c_firstWorth c_found c_least c_seats c_secondWorth c_stand c_weight c_wish u_above u_below u_whole) [some (.ref 0), some (.int v1), some (.int v2), none, none, none, none] []) : ∀ (n : Nat) {c_full : Int32} {c_firsts : Int32} {c_freed : Int32} {c_cost : Nat → Int64} {c_firstWorth : Nat → Int32} {c_found : Nat → Int32} {c_least : Nat → Int64} {c_seats : Nat → Int32} {c_secondWorth : Nat → Int32} {c_stand : Nat → Int64} {c_weight : Nat → Int32} {v1 : Int32} {v2 : Int32} {v3 : Int32}, f_X8_findStand_83 N c_askers c_places c_wish k75 n c_full c_firsts c_freed c_cost c_firstWorth c_found c_least c_seats c_secondWorth c_stand c_weight v1 v2 v3 = some res → GG mu_X8_findStand κ ω A (QR κ ω A ad (none) (w_X8_findStand c_askers c_places res.1 res.2.1 res.2.2.1 res.2.2.2.1 res.2.2.2.2.1 res.2.2.2.2.2.1 res.2.2.2.2.2.2.1 res.2.2.2.2.2.2.2.1 res.2.2.2.2.2.2.2.2.1 res.2.2.2.2.2.2.2.2.2.1 res.2.2.2.2.2.2.2.2.2.2 c_wish u_above u_below u_whole)) ad 0 0 83 (w_X8_findStand c_askers c_places c_full c_firsts c_freed c_cost c_firstWorth c_found c_least c_seats c_secondWorth c_stand c_weight c_wish u_above u_below u_whole) [some (.ref 0), some (.int v1), some (.int v2), some (.int v3), none, none, none] [] := by
  intro n
  induction n with
  | zero => intro c_full c_firsts c_freed c_cost c_firstWorth c_found c_least c_seats c_secondWorth c_stand c_weight v1 v2 v3 hf; exact ob_0 hf
  | succ n ih =>
    intro c_full c_firsts c_freed c_cost c_firstWorth c_found c_least c_seats c_secondWorth c_stand c_weight v1 v2 v3 hf
    refine G_iload_n dX8_findStand_83 rfl rfl ?_
    refine G_aload_n dX8_findStand_84 rfl rfl ?_
    refine G_get (v := .int c_full) F_X8_114 dX8_findStand_85 rfl rfl ?_
    refine G_icmp_gt 146 dX8_findStand_88 (by decide) (fun h1 => ?_) (fun h1 => ?_)
    · replace hf := ob_t h1 hf
      refine G_iinc 1 dX8_findStand_146 (by decide) rfl (ltb rfl) ?_
      change GG _ _ _ _ _ _ _ _ _ _ [some (.ref 0), some (.int v1), some (.int (v2 + 1)), some (.int v3), none, none, none] _
      refine G_goto 75 dX8_findStand_149 (by decide) ?_
      refine GG.sb (lv2 := [some (.ref 0), some (.int v1), some (.int (v2 + 1)), none, none, none, none]) ?_ (lvS_v rfl (lvS_v rfl (lvS_v rfl (lvS_n (lvS_n (lvS_n (lvS_n (lvS_e))))))))
      exact hk75 hf
    · replace hf := ob_f h1 hf
      refine G_lconst 0 dX8_findStand_91 (by decide) ?_
      refine G_lstore dX8_findStand_92 (ltb rfl) ?_
      change GG _ _ _ _ _ _ _ _ _ _ [some (.ref 0), some (.int v1), some (.int v2), some (.int v3), some (.long 0), none, none] _
      refine G_iconst 0 dX8_findStand_94 (by decide) ?_
      refine G_istore dX8_findStand_95 (ltb rfl) ?_
      change GG _ _ _ _ _ _ _ _ _ _ [some (.ref 0), some (.int v1), some (.int v2), some (.int v3), some (.long 0), none, some (.int 0)] _
      exact g_X8_findStand_97 ih N hf
def f_X8_findStand_75 (N : Nat) (c_askers : Int32) (c_places : Int32) (c_wish : Nat → Int32) (k69 : Int32 → Int32 → Int32 → (Nat → Int64) → (Nat → Int32) → (Nat → Int32) → (Nat → Int64) → (Nat → Int32) → (Nat → Int32) → (Nat → Int64) → (Nat → Int32) → Int32 → Option (Int32 × Int32 × Int32 × (Nat → Int64) × (Nat → Int32) × (Nat → Int32) × (Nat → Int64) × (Nat → Int32) × (Nat → Int32) × (Nat → Int64) × (Nat → Int32))) : Nat → Int32 → Int32 → Int32 → (Nat → Int64) → (Nat → Int32) → (Nat → Int32) → (Nat → Int64) → (Nat → Int32) → (Nat → Int32) → (Nat → Int64) → (Nat → Int32) → Int32 → Int32 → Option (Int32 × Int32 × Int32 × (Nat → Int64) × (Nat → Int32) × (Nat → Int32) × (Nat → Int64) × (Nat → Int32) × (Nat → Int32) × (Nat → Int64) × (Nat → Int32))
  | 0, _, _, _, _, _, _, _, _, _, _, _, _, _ => none
  | n + 1, c_full, c_firsts, c_freed, c_cost, c_firstWorth, c_found, c_least, c_seats, c_secondWorth, c_stand, c_weight, v1, v2 =>
    (if 9 ≤ v2 then
      k69 c_full c_firsts c_freed c_cost c_firstWorth c_found c_least c_seats c_secondWorth c_stand c_weight (v1 + (-1))
    else
      f_X8_findStand_83 N c_askers c_places c_wish (f_X8_findStand_75 N c_askers c_places c_wish k69 n) N c_full c_firsts c_freed c_cost c_firstWorth c_found c_least c_seats c_secondWorth c_stand c_weight v1 v2 0)
set_option maxHeartbeats 4000000 in
set_option maxRecDepth 100000 in
theorem g_X8_findStand_75 {κ : KC} {ω : KW} {A : Nat → Prop} {ad : Nat → Nat} {u_above : Int64} {u_below : Int64} {u_whole : Int64} {N : Nat} {c_askers : Int32} {c_places : Int32} {c_wish : Nat → Int32}  {k69 : Int32 → Int32 → Int32 → (Nat → Int64) → (Nat → Int32) → (Nat → Int32) → (Nat → Int64) → (Nat → Int32) → (Nat → Int32) → (Nat → Int64) → (Nat → Int32) → Int32 → Option (Int32 × Int32 × Int32 × (Nat → Int64) × (Nat → Int32) × (Nat → Int32) × (Nat → Int64) × (Nat → Int32) × (Nat → Int32) × (Nat → Int64) × (Nat → Int32))} {res : Int32 × Int32 × Int32 × (Nat → Int64) × (Nat → Int32) × (Nat → Int32) × (Nat → Int64) × (Nat → Int32) × (Nat → Int32) × (Nat → Int64) × (Nat → Int32)} (hk69 : ∀ {c_full : Int32} {c_firsts : Int32} {c_freed : Int32} {c_cost : Nat → Int64} {c_firstWorth : Nat → Int32} {c_found : Nat → Int32} {c_least : Nat → Int64} {c_seats : Nat → Int32} {c_secondWorth : Nat → Int32} {c_stand : Nat → Int64} {c_weight : Nat → Int32} {v1 : Int32}, k69 c_full c_firsts c_freed c_cost c_firstWorth c_found c_least c_seats c_secondWorth c_stand c_weight v1 = some res → GG mu_X8_findStand κ ω A (QR κ ω A ad (none) (w_X8_findStand c_askers c_places res.1 res.2.1 res.2.2.1 res.2.2.2.1 res.2.2.2.2.1 res.2.2.2.2.2.1 res.2.2.2.2.2.2.1 res.2.2.2.2.2.2.2.1 res.2.2.2.2.2.2.2.2.1 res.2.2.2.2.2.2.2.2.2.1 res.2.2.2.2.2.2.2.2.2.2 c_wish u_above u_below u_whole)) ad 0 0 69 (w_X8_findStand c_askers c_places c_full c_firsts c_freed c_cost c_firstWorth c_found c_least c_seats c_secondWorth c_stand c_weight c_wish u_above u_below u_whole) [some (.ref 0), some (.int v1), none, none, none, none, none] []) : ∀ (n : Nat) {c_full : Int32} {c_firsts : Int32} {c_freed : Int32} {c_cost : Nat → Int64} {c_firstWorth : Nat → Int32} {c_found : Nat → Int32} {c_least : Nat → Int64} {c_seats : Nat → Int32} {c_secondWorth : Nat → Int32} {c_stand : Nat → Int64} {c_weight : Nat → Int32} {v1 : Int32} {v2 : Int32}, f_X8_findStand_75 N c_askers c_places c_wish k69 n c_full c_firsts c_freed c_cost c_firstWorth c_found c_least c_seats c_secondWorth c_stand c_weight v1 v2 = some res → GG mu_X8_findStand κ ω A (QR κ ω A ad (none) (w_X8_findStand c_askers c_places res.1 res.2.1 res.2.2.1 res.2.2.2.1 res.2.2.2.2.1 res.2.2.2.2.2.1 res.2.2.2.2.2.2.1 res.2.2.2.2.2.2.2.1 res.2.2.2.2.2.2.2.2.1 res.2.2.2.2.2.2.2.2.2.1 res.2.2.2.2.2.2.2.2.2.2 c_wish u_above u_below u_whole)) ad 0 0 75 (w_X8_findStand c_askers c_places c_full c_firsts c_freed c_cost c_firstWorth c_found c_least c_seats c_secondWorth c_stand c_weight c_wish u_above u_below u_whole) [some (.ref 0), some (.int v1), some (.int v2), none, none, none, none] [] := by
  intro n
  induction n with
  | zero => intro c_full c_firsts c_freed c_cost c_firstWorth c_found c_least c_seats c_secondWorth c_stand c_weight v1 v2 hf; exact ob_0 hf
  | succ n ih =>
    intro c_full c_firsts c_freed c_cost c_firstWorth c_found c_least c_seats c_secondWorth c_stand c_weight v1 v2 hf
    refine G_iload_n dX8_findStand_75 rfl rfl ?_
    refine G_bipush 9 dX8_findStand_76 (by decide) ?_
    refine G_icmp_ge 152 dX8_findStand_78 (by decide) (fun h1 => ?_) (fun h1 => ?_)
    · replace hf := ob_t h1 hf
      refine G_iinc (-1) dX8_findStand_152 (by decide) rfl (ltb rfl) ?_
      change GG _ _ _ _ _ _ _ _ _ _ [some (.ref 0), some (.int (v1 + (-1))), some (.int v2), none, none, none, none] _
      refine G_goto 69 dX8_findStand_155 (by decide) ?_
      refine GG.sb (lv2 := [some (.ref 0), some (.int (v1 + (-1))), none, none, none, none, none]) ?_ (lvS_v rfl (lvS_v rfl (lvS_n (lvS_n (lvS_n (lvS_n (lvS_n (lvS_e))))))))
      exact hk69 hf
    · replace hf := ob_f h1 hf
      refine G_iconst 0 dX8_findStand_81 (by decide) ?_
      refine G_istore_n dX8_findStand_82 rfl (ltb rfl) ?_
      change GG _ _ _ _ _ _ _ _ _ _ [some (.ref 0), some (.int v1), some (.int v2), some (.int 0), none, none, none] _
      exact g_X8_findStand_83 ih N hf
def f_X8_findStand_69 (N : Nat) (c_askers : Int32) (c_places : Int32) (c_wish : Nat → Int32) : Nat → Int32 → Int32 → Int32 → (Nat → Int64) → (Nat → Int32) → (Nat → Int32) → (Nat → Int64) → (Nat → Int32) → (Nat → Int32) → (Nat → Int64) → (Nat → Int32) → Int32 → Option (Int32 × Int32 × Int32 × (Nat → Int64) × (Nat → Int32) × (Nat → Int32) × (Nat → Int64) × (Nat → Int32) × (Nat → Int32) × (Nat → Int64) × (Nat → Int32))
  | 0, _, _, _, _, _, _, _, _, _, _, _, _ => none
  | n + 1, c_full, c_firsts, c_freed, c_cost, c_firstWorth, c_found, c_least, c_seats, c_secondWorth, c_stand, c_weight, v1 =>
    (if v1 < 0 then
      some (c_full, c_firsts, c_freed, c_cost, c_firstWorth, c_found, c_least, c_seats, c_secondWorth, c_stand, c_weight)
    else
      f_X8_findStand_75 N c_askers c_places c_wish (f_X8_findStand_69 N c_askers c_places c_wish n) N c_full c_firsts c_freed c_cost c_firstWorth c_found c_least c_seats c_secondWorth c_stand c_weight v1 0)
set_option maxHeartbeats 4000000 in
set_option maxRecDepth 100000 in
theorem g_X8_findStand_69 {κ : KC} {ω : KW} {A : Nat → Prop} {ad : Nat → Nat} {u_above : Int64} {u_below : Int64} {u_whole : Int64} {N : Nat} {c_askers : Int32} {c_places : Int32} {c_wish : Nat → Int32}  {res : Int32 × Int32 × Int32 × (Nat → Int64) × (Nat → Int32) × (Nat → Int32) × (Nat → Int64) × (Nat → Int32) × (Nat → Int32) × (Nat → Int64) × (Nat → Int32)} : ∀ (n : Nat) {c_full : Int32} {c_firsts : Int32} {c_freed : Int32} {c_cost : Nat → Int64} {c_firstWorth : Nat → Int32} {c_found : Nat → Int32} {c_least : Nat → Int64} {c_seats : Nat → Int32} {c_secondWorth : Nat → Int32} {c_stand : Nat → Int64} {c_weight : Nat → Int32} {v1 : Int32}, f_X8_findStand_69 N c_askers c_places c_wish n c_full c_firsts c_freed c_cost c_firstWorth c_found c_least c_seats c_secondWorth c_stand c_weight v1 = some res → GG mu_X8_findStand κ ω A (QR κ ω A ad (none) (w_X8_findStand c_askers c_places res.1 res.2.1 res.2.2.1 res.2.2.2.1 res.2.2.2.2.1 res.2.2.2.2.2.1 res.2.2.2.2.2.2.1 res.2.2.2.2.2.2.2.1 res.2.2.2.2.2.2.2.2.1 res.2.2.2.2.2.2.2.2.2.1 res.2.2.2.2.2.2.2.2.2.2 c_wish u_above u_below u_whole)) ad 0 0 69 (w_X8_findStand c_askers c_places c_full c_firsts c_freed c_cost c_firstWorth c_found c_least c_seats c_secondWorth c_stand c_weight c_wish u_above u_below u_whole) [some (.ref 0), some (.int v1), none, none, none, none, none] [] := by
  intro n
  induction n with
  | zero => intro c_full c_firsts c_freed c_cost c_firstWorth c_found c_least c_seats c_secondWorth c_stand c_weight v1 hf; exact ob_0 hf
  | succ n ih =>
    intro c_full c_firsts c_freed c_cost c_firstWorth c_found c_least c_seats c_secondWorth c_stand c_weight v1 hf
    refine G_iload_n dX8_findStand_69 rfl rfl ?_
    refine G_if_lt 158 dX8_findStand_70 (by decide) (fun h1 => ?_) (fun h1 => ?_)
    · replace hf := ob_t h1 hf
      obtain rfl := os hf
      exact G_return dX8_findStand_158 rfl
    · replace hf := ob_f h1 hf
      refine G_iconst 0 dX8_findStand_73 (by decide) ?_
      refine G_istore_n dX8_findStand_74 rfl (ltb rfl) ?_
      change GG _ _ _ _ _ _ _ _ _ _ [some (.ref 0), some (.int v1), some (.int 0), none, none, none, none] _
      exact g_X8_findStand_75 ih N hf
def f_X8_findStand_49 (N : Nat) (c_askers : Int32) (c_places : Int32) (c_wish : Nat → Int32) (k18 : Int32 → Int32 → Int32 → (Nat → Int64) → (Nat → Int32) → (Nat → Int32) → (Nat → Int64) → (Nat → Int32) → (Nat → Int32) → (Nat → Int64) → (Nat → Int32) → Int32 → Int32 → Option (Int32 × Int32 × Int32 × (Nat → Int64) × (Nat → Int32) × (Nat → Int32) × (Nat → Int64) × (Nat → Int32) × (Nat → Int32) × (Nat → Int64) × (Nat → Int32))) (c_full : Int32) (c_firsts : Int32) (c_freed : Int32) (c_cost : Nat → Int64) (c_firstWorth : Nat → Int32) (c_found : Nat → Int32) (c_least : Nat → Int64) (c_seats : Nat → Int32) (c_secondWorth : Nat → Int32) (c_stand : Nat → Int64) (c_weight : Nat → Int32) (v1 : Int32) (v2 : Int32) (s1 : Int32) (s2 : Int64) : Option (Int32 × Int32 × Int32 × (Nat → Int64) × (Nat → Int32) × (Nat → Int32) × (Nat → Int64) × (Nat → Int32) × (Nat → Int32) × (Nat → Int64) × (Nat → Int32)) :=
    (wrL 331776 c_stand s1 s2).bind fun t1 =>
    k18 c_full c_firsts c_freed c_cost c_firstWorth c_found c_least c_seats c_secondWorth t1 c_weight v1 (v2 + 1)
set_option maxHeartbeats 4000000 in
set_option maxRecDepth 100000 in
theorem g_X8_findStand_49 {κ : KC} {ω : KW} {A : Nat → Prop} {ad : Nat → Nat} {u_above : Int64} {u_below : Int64} {u_whole : Int64} {N : Nat} {c_askers : Int32} {c_places : Int32} {c_wish : Nat → Int32}  {k18 : Int32 → Int32 → Int32 → (Nat → Int64) → (Nat → Int32) → (Nat → Int32) → (Nat → Int64) → (Nat → Int32) → (Nat → Int32) → (Nat → Int64) → (Nat → Int32) → Int32 → Int32 → Option (Int32 × Int32 × Int32 × (Nat → Int64) × (Nat → Int32) × (Nat → Int32) × (Nat → Int64) × (Nat → Int32) × (Nat → Int32) × (Nat → Int64) × (Nat → Int32))} {res : Int32 × Int32 × Int32 × (Nat → Int64) × (Nat → Int32) × (Nat → Int32) × (Nat → Int64) × (Nat → Int32) × (Nat → Int32) × (Nat → Int64) × (Nat → Int32)} (hk18 : ∀ {c_full : Int32} {c_firsts : Int32} {c_freed : Int32} {c_cost : Nat → Int64} {c_firstWorth : Nat → Int32} {c_found : Nat → Int32} {c_least : Nat → Int64} {c_seats : Nat → Int32} {c_secondWorth : Nat → Int32} {c_stand : Nat → Int64} {c_weight : Nat → Int32} {v1 : Int32} {v2 : Int32}, k18 c_full c_firsts c_freed c_cost c_firstWorth c_found c_least c_seats c_secondWorth c_stand c_weight v1 v2 = some res → GG mu_X8_findStand κ ω A (QR κ ω A ad (none) (w_X8_findStand c_askers c_places res.1 res.2.1 res.2.2.1 res.2.2.2.1 res.2.2.2.2.1 res.2.2.2.2.2.1 res.2.2.2.2.2.2.1 res.2.2.2.2.2.2.2.1 res.2.2.2.2.2.2.2.2.1 res.2.2.2.2.2.2.2.2.2.1 res.2.2.2.2.2.2.2.2.2.2 c_wish u_above u_below u_whole)) ad 0 0 18 (w_X8_findStand c_askers c_places c_full c_firsts c_freed c_cost c_firstWorth c_found c_least c_seats c_secondWorth c_stand c_weight c_wish u_above u_below u_whole) [some (.ref 0), some (.int v1), some (.int v2), none, none, none, none] []) {c_full : Int32} {c_firsts : Int32} {c_freed : Int32} {c_cost : Nat → Int64} {c_firstWorth : Nat → Int32} {c_found : Nat → Int32} {c_least : Nat → Int64} {c_seats : Nat → Int32} {c_secondWorth : Nat → Int32} {c_stand : Nat → Int64} {c_weight : Nat → Int32} {v1 : Int32} {v2 : Int32} {s1 : Int32} {s2 : Int64} (hf : f_X8_findStand_49 N c_askers c_places c_wish k18 c_full c_firsts c_freed c_cost c_firstWorth c_found c_least c_seats c_secondWorth c_stand c_weight v1 v2 s1 s2 = some res) : GG mu_X8_findStand κ ω A (QR κ ω A ad (none) (w_X8_findStand c_askers c_places res.1 res.2.1 res.2.2.1 res.2.2.2.1 res.2.2.2.2.1 res.2.2.2.2.2.1 res.2.2.2.2.2.2.1 res.2.2.2.2.2.2.2.1 res.2.2.2.2.2.2.2.2.1 res.2.2.2.2.2.2.2.2.2.1 res.2.2.2.2.2.2.2.2.2.2 c_wish u_above u_below u_whole)) ad 0 0 49 (w_X8_findStand c_askers c_places c_full c_firsts c_freed c_cost c_firstWorth c_found c_least c_seats c_secondWorth c_stand c_weight c_wish u_above u_below u_whole) [some (.ref 0), some (.int v1), some (.int v2), none, none, none, none] [.long s2, .int s1, .ref 7] := by
  obtain ⟨t1, ht1, hf⟩ := ob hf
  refine G_last (w2 := (w_X8_findStand c_askers c_places c_full c_firsts c_freed c_cost c_firstWorth c_found c_least c_seats c_secondWorth t1 c_weight c_wish u_above u_below u_whole)) dX8_findStand_49 rfl ht1 rfl ?_
  refine G_iinc 1 dX8_findStand_50 (by decide) rfl (ltb rfl) ?_
  change GG _ _ _ _ _ _ _ _ _ _ [some (.ref 0), some (.int v1), some (.int (v2 + 1)), none, none, none, none] _
  refine G_goto 18 dX8_findStand_53 (by decide) ?_
  exact hk18 hf
def f_X8_findStand_18 (N : Nat) (c_askers : Int32) (c_places : Int32) (c_wish : Nat → Int32) (k10 : Int32 → Int32 → Int32 → (Nat → Int64) → (Nat → Int32) → (Nat → Int32) → (Nat → Int64) → (Nat → Int32) → (Nat → Int32) → (Nat → Int64) → (Nat → Int32) → Int32 → Option (Int32 × Int32 × Int32 × (Nat → Int64) × (Nat → Int32) × (Nat → Int32) × (Nat → Int64) × (Nat → Int32) × (Nat → Int32) × (Nat → Int64) × (Nat → Int32))) : Nat → Int32 → Int32 → Int32 → (Nat → Int64) → (Nat → Int32) → (Nat → Int32) → (Nat → Int64) → (Nat → Int32) → (Nat → Int32) → (Nat → Int64) → (Nat → Int32) → Int32 → Int32 → Option (Int32 × Int32 × Int32 × (Nat → Int64) × (Nat → Int32) × (Nat → Int32) × (Nat → Int64) × (Nat → Int32) × (Nat → Int32) × (Nat → Int64) × (Nat → Int32))
  | 0, _, _, _, _, _, _, _, _, _, _, _, _, _ => none
  | n + 1, c_full, c_firsts, c_freed, c_cost, c_firstWorth, c_found, c_least, c_seats, c_secondWorth, c_stand, c_weight, v1, v2 =>
    (if c_full < v2 then
      k10 c_full c_firsts c_freed c_cost c_firstWorth c_found c_least c_seats c_secondWorth c_stand c_weight (v1 + 1)
    else
      (f_X8_standAt N c_askers v1 v2).bind fun r2 =>
      (if v1 = 0 then
        f_X8_findStand_49 N c_askers c_places c_wish (f_X8_findStand_18 N c_askers c_places c_wish k10 n) c_full c_firsts c_freed c_cost c_firstWorth c_found c_least c_seats c_secondWorth c_stand c_weight v1 v2 r2 1
      else
        f_X8_findStand_49 N c_askers c_places c_wish (f_X8_findStand_18 N c_askers c_places c_wish k10 n) c_full c_firsts c_freed c_cost c_firstWorth c_found c_least c_seats c_secondWorth c_stand c_weight v1 v2 r2 0))
set_option maxHeartbeats 4000000 in
set_option maxRecDepth 100000 in
theorem g_X8_findStand_18 {κ : KC} {ω : KW} {A : Nat → Prop} {ad : Nat → Nat} {u_above : Int64} {u_below : Int64} {u_whole : Int64} {N : Nat} {c_askers : Int32} {c_places : Int32} {c_wish : Nat → Int32}  {k10 : Int32 → Int32 → Int32 → (Nat → Int64) → (Nat → Int32) → (Nat → Int32) → (Nat → Int64) → (Nat → Int32) → (Nat → Int32) → (Nat → Int64) → (Nat → Int32) → Int32 → Option (Int32 × Int32 × Int32 × (Nat → Int64) × (Nat → Int32) × (Nat → Int32) × (Nat → Int64) × (Nat → Int32) × (Nat → Int32) × (Nat → Int64) × (Nat → Int32))} {res : Int32 × Int32 × Int32 × (Nat → Int64) × (Nat → Int32) × (Nat → Int32) × (Nat → Int64) × (Nat → Int32) × (Nat → Int32) × (Nat → Int64) × (Nat → Int32)} (hk10 : ∀ {c_full : Int32} {c_firsts : Int32} {c_freed : Int32} {c_cost : Nat → Int64} {c_firstWorth : Nat → Int32} {c_found : Nat → Int32} {c_least : Nat → Int64} {c_seats : Nat → Int32} {c_secondWorth : Nat → Int32} {c_stand : Nat → Int64} {c_weight : Nat → Int32} {v1 : Int32}, k10 c_full c_firsts c_freed c_cost c_firstWorth c_found c_least c_seats c_secondWorth c_stand c_weight v1 = some res → GG mu_X8_findStand κ ω A (QR κ ω A ad (none) (w_X8_findStand c_askers c_places res.1 res.2.1 res.2.2.1 res.2.2.2.1 res.2.2.2.2.1 res.2.2.2.2.2.1 res.2.2.2.2.2.2.1 res.2.2.2.2.2.2.2.1 res.2.2.2.2.2.2.2.2.1 res.2.2.2.2.2.2.2.2.2.1 res.2.2.2.2.2.2.2.2.2.2 c_wish u_above u_below u_whole)) ad 0 0 10 (w_X8_findStand c_askers c_places c_full c_firsts c_freed c_cost c_firstWorth c_found c_least c_seats c_secondWorth c_stand c_weight c_wish u_above u_below u_whole) [some (.ref 0), some (.int v1), none, none, none, none, none] []) : ∀ (n : Nat) {c_full : Int32} {c_firsts : Int32} {c_freed : Int32} {c_cost : Nat → Int64} {c_firstWorth : Nat → Int32} {c_found : Nat → Int32} {c_least : Nat → Int64} {c_seats : Nat → Int32} {c_secondWorth : Nat → Int32} {c_stand : Nat → Int64} {c_weight : Nat → Int32} {v1 : Int32} {v2 : Int32}, f_X8_findStand_18 N c_askers c_places c_wish k10 n c_full c_firsts c_freed c_cost c_firstWorth c_found c_least c_seats c_secondWorth c_stand c_weight v1 v2 = some res → GG mu_X8_findStand κ ω A (QR κ ω A ad (none) (w_X8_findStand c_askers c_places res.1 res.2.1 res.2.2.1 res.2.2.2.1 res.2.2.2.2.1 res.2.2.2.2.2.1 res.2.2.2.2.2.2.1 res.2.2.2.2.2.2.2.1 res.2.2.2.2.2.2.2.2.1 res.2.2.2.2.2.2.2.2.2.1 res.2.2.2.2.2.2.2.2.2.2 c_wish u_above u_below u_whole)) ad 0 0 18 (w_X8_findStand c_askers c_places c_full c_firsts c_freed c_cost c_firstWorth c_found c_least c_seats c_secondWorth c_stand c_weight c_wish u_above u_below u_whole) [some (.ref 0), some (.int v1), some (.int v2), none, none, none, none] [] := by
  intro n
  induction n with
  | zero => intro c_full c_firsts c_freed c_cost c_firstWorth c_found c_least c_seats c_secondWorth c_stand c_weight v1 v2 hf; exact ob_0 hf
  | succ n ih =>
    intro c_full c_firsts c_freed c_cost c_firstWorth c_found c_least c_seats c_secondWorth c_stand c_weight v1 v2 hf
    refine G_iload_n dX8_findStand_18 rfl rfl ?_
    refine G_aload_n dX8_findStand_19 rfl rfl ?_
    refine G_get (v := .int c_full) F_X8_114 dX8_findStand_20 rfl rfl ?_
    refine G_icmp_gt 56 dX8_findStand_23 (by decide) (fun h1 => ?_) (fun h1 => ?_)
    · replace hf := ob_t h1 hf
      refine G_iinc 1 dX8_findStand_56 (by decide) rfl (ltb rfl) ?_
      change GG _ _ _ _ _ _ _ _ _ _ [some (.ref 0), some (.int (v1 + 1)), some (.int v2), none, none, none, none] _
      refine G_goto 10 dX8_findStand_59 (by decide) ?_
      refine GG.sb (lv2 := [some (.ref 0), some (.int (v1 + 1)), none, none, none, none, none]) ?_ (lvS_v rfl (lvS_v rfl (lvS_n (lvS_n (lvS_n (lvS_n (lvS_n (lvS_e))))))))
      exact hk10 hf
    · replace hf := ob_f h1 hf
      refine G_aload_n dX8_findStand_26 rfl rfl ?_
      refine G_get (v := .ref 7) F_X8_49 dX8_findStand_27 rfl rfl ?_
      refine G_aload_n dX8_findStand_30 rfl rfl ?_
      refine G_aload_n dX8_findStand_31 rfl rfl ?_
      refine G_get (v := .int c_askers) F_X8_89 dX8_findStand_32 rfl rfl ?_
      refine G_iload_n dX8_findStand_35 rfl rfl ?_
      refine G_iload_n dX8_findStand_36 rfl rfl ?_
      obtain ⟨r2, hc3, hf⟩ := ob hf
      refine G_callV (μ2 := mu_X8_standAt) (As := [.int c_askers, .int v1, .int v2]) (w2 := (w_X8_findStand c_askers c_places c_full c_firsts c_freed c_cost c_firstWorth c_found c_least c_seats c_secondWorth c_stand c_weight c_wish u_above u_below u_whole)) (wc := (w_X8_standAt c_askers c_places u_above u_below c_full c_firsts c_freed u_whole)) (wc2 := (w_X8_standAt c_askers c_places u_above u_below c_full c_firsts c_freed u_whole)) (rest := [.ref 7]) (rv := [.int r2]) [0] [5, 9, 1000, 8, 1001, 3, 1, 4, 1002, 1003, 2, 6, 7, 1004, 1005, 1006, 1007, 1008, 1009, 1010, 1011] [1, 2, 3, 4, 5, 6, 7, 8, 9] [9, 0, 1, 2, 3, 4, 5, 6, 7, 8] (c_X8_standAt hc3) cw_X8_standAt m_X8_187 dX8_findStand_37 rfl ⟨leb rfl, leb rfl⟩ ⟨rfl, rfl⟩ rfl ⟨_, rfl, rfl⟩ (Fit.mk rfl rfl rfl) rfl (leb rfl) (ROsub.nil rfl rfl) rfl ?_
      change GG _ _ _ _ _ _ _ _ _ (w_X8_findStand c_askers c_places c_full c_firsts c_freed c_cost c_firstWorth c_found c_least c_seats c_secondWorth c_stand c_weight c_wish u_above u_below u_whole) [some (.ref 0), some (.int v1), some (.int v2), none, none, none, none] [.int r2, .ref 7]
      refine G_iload_n dX8_findStand_40 rfl rfl ?_
      refine G_if_ne 48 dX8_findStand_41 (by decide) (fun h4 => ?_) (fun h4 => ?_)
      · replace hf := ob_f h4 hf
        refine G_lconst 0 dX8_findStand_48 (by decide) ?_
        exact g_X8_findStand_49 ih hf
      · replace hf := ob_t h4 hf
        refine G_lconst 1 dX8_findStand_44 (by decide) ?_
        refine G_goto 49 dX8_findStand_45 (by decide) ?_
        exact g_X8_findStand_49 ih hf
def f_X8_findStand_10 (N : Nat) (c_askers : Int32) (c_places : Int32) (c_wish : Nat → Int32) : Nat → Int32 → Int32 → Int32 → (Nat → Int64) → (Nat → Int32) → (Nat → Int32) → (Nat → Int64) → (Nat → Int32) → (Nat → Int32) → (Nat → Int64) → (Nat → Int32) → Int32 → Option (Int32 × Int32 × Int32 × (Nat → Int64) × (Nat → Int32) × (Nat → Int32) × (Nat → Int64) × (Nat → Int32) × (Nat → Int32) × (Nat → Int64) × (Nat → Int32))
  | 0, _, _, _, _, _, _, _, _, _, _, _, _ => none
  | n + 1, c_full, c_firsts, c_freed, c_cost, c_firstWorth, c_found, c_least, c_seats, c_secondWorth, c_stand, c_weight, v1 =>
    (if 9 ≤ v1 then
      f_X8_findStand_69 N c_askers c_places c_wish N c_full c_firsts c_freed c_cost c_firstWorth c_found c_least c_seats c_secondWorth c_stand c_weight (c_askers - 1)
    else
      f_X8_findStand_18 N c_askers c_places c_wish (f_X8_findStand_10 N c_askers c_places c_wish n) N c_full c_firsts c_freed c_cost c_firstWorth c_found c_least c_seats c_secondWorth c_stand c_weight v1 0)
set_option maxHeartbeats 4000000 in
set_option maxRecDepth 100000 in
theorem g_X8_findStand_10 {κ : KC} {ω : KW} {A : Nat → Prop} {ad : Nat → Nat} {u_above : Int64} {u_below : Int64} {u_whole : Int64} {N : Nat} {c_askers : Int32} {c_places : Int32} {c_wish : Nat → Int32}  {res : Int32 × Int32 × Int32 × (Nat → Int64) × (Nat → Int32) × (Nat → Int32) × (Nat → Int64) × (Nat → Int32) × (Nat → Int32) × (Nat → Int64) × (Nat → Int32)} : ∀ (n : Nat) {c_full : Int32} {c_firsts : Int32} {c_freed : Int32} {c_cost : Nat → Int64} {c_firstWorth : Nat → Int32} {c_found : Nat → Int32} {c_least : Nat → Int64} {c_seats : Nat → Int32} {c_secondWorth : Nat → Int32} {c_stand : Nat → Int64} {c_weight : Nat → Int32} {v1 : Int32}, f_X8_findStand_10 N c_askers c_places c_wish n c_full c_firsts c_freed c_cost c_firstWorth c_found c_least c_seats c_secondWorth c_stand c_weight v1 = some res → GG mu_X8_findStand κ ω A (QR κ ω A ad (none) (w_X8_findStand c_askers c_places res.1 res.2.1 res.2.2.1 res.2.2.2.1 res.2.2.2.2.1 res.2.2.2.2.2.1 res.2.2.2.2.2.2.1 res.2.2.2.2.2.2.2.1 res.2.2.2.2.2.2.2.2.1 res.2.2.2.2.2.2.2.2.2.1 res.2.2.2.2.2.2.2.2.2.2 c_wish u_above u_below u_whole)) ad 0 0 10 (w_X8_findStand c_askers c_places c_full c_firsts c_freed c_cost c_firstWorth c_found c_least c_seats c_secondWorth c_stand c_weight c_wish u_above u_below u_whole) [some (.ref 0), some (.int v1), none, none, none, none, none] [] := by
  intro n
  induction n with
  | zero => intro c_full c_firsts c_freed c_cost c_firstWorth c_found c_least c_seats c_secondWorth c_stand c_weight v1 hf; exact ob_0 hf
  | succ n ih =>
    intro c_full c_firsts c_freed c_cost c_firstWorth c_found c_least c_seats c_secondWorth c_stand c_weight v1 hf
    refine G_iload_n dX8_findStand_10 rfl rfl ?_
    refine G_bipush 9 dX8_findStand_11 (by decide) ?_
    refine G_icmp_ge 62 dX8_findStand_13 (by decide) (fun h1 => ?_) (fun h1 => ?_)
    · replace hf := ob_t h1 hf
      refine G_aload_n dX8_findStand_62 rfl rfl ?_
      refine G_get (v := .int c_askers) F_X8_89 dX8_findStand_63 rfl rfl ?_
      refine G_iconst 1 dX8_findStand_66 (by decide) ?_
      refine G_isub dX8_findStand_67 ?_
      refine G_istore_n dX8_findStand_68 rfl (ltb rfl) ?_
      change GG _ _ _ _ _ _ _ _ _ _ [some (.ref 0), some (.int (c_askers - 1)), none, none, none, none, none] _
      exact g_X8_findStand_69 N hf
    · replace hf := ob_f h1 hf
      refine G_iconst 0 dX8_findStand_16 (by decide) ?_
      refine G_istore_n dX8_findStand_17 rfl (ltb rfl) ?_
      change GG _ _ _ _ _ _ _ _ _ _ [some (.ref 0), some (.int v1), some (.int 0), none, none, none, none] _
      exact g_X8_findStand_18 ih N hf
def f_X8_findStand (N : Nat) (c_askers : Int32) (c_places : Int32) (c_wish : Nat → Int32) (c_full : Int32) (c_firsts : Int32) (c_freed : Int32) (c_cost : Nat → Int64) (c_firstWorth : Nat → Int32) (c_found : Nat → Int32) (c_least : Nat → Int64) (c_seats : Nat → Int32) (c_secondWorth : Nat → Int32) (c_stand : Nat → Int64) (c_weight : Nat → Int32)  : Option (Int32 × Int32 × Int32 × (Nat → Int64) × (Nat → Int32) × (Nat → Int32) × (Nat → Int64) × (Nat → Int32) × (Nat → Int32) × (Nat → Int64) × (Nat → Int32)) :=
  (f_X8_findStanding N c_askers c_places c_wish c_full c_firsts c_freed c_cost c_firstWorth c_found c_least c_seats c_secondWorth c_weight).bind fun (o1, o2, o3, o4, o5, o6, o7, o8, o9, o10) =>
  (f_X8_findWeights N c_places o8 o1 o10).bind fun (o12, o13) =>
  f_X8_findStand_10 N c_askers c_places c_wish N o12 o2 o3 o4 o5 o6 o7 o8 o9 c_stand o13 0
set_option maxHeartbeats 4000000 in
set_option maxRecDepth 100000 in
theorem c_X8_findStand {N : Nat} {c_askers : Int32} {c_places : Int32} {c_wish : Nat → Int32} {c_full : Int32} {c_firsts : Int32} {c_freed : Int32} {c_cost : Nat → Int64} {c_firstWorth : Nat → Int32} {c_found : Nat → Int32} {c_least : Nat → Int64} {c_seats : Nat → Int32} {c_secondWorth : Nat → Int32} {c_stand : Nat → Int64} {c_weight : Nat → Int32} {u_above : Int64} {u_below : Int64} {u_whole : Int64}  {res : Int32 × Int32 × Int32 × (Nat → Int64) × (Nat → Int32) × (Nat → Int32) × (Nat → Int64) × (Nat → Int32) × (Nat → Int32) × (Nat → Int64) × (Nat → Int32)} (hf : f_X8_findStand N c_askers c_places c_wish c_full c_firsts c_freed c_cost c_firstWorth c_found c_least c_seats c_secondWorth c_stand c_weight = some res) : Con mu_X8_findStand [.ref 0] (w_X8_findStand c_askers c_places c_full c_firsts c_freed c_cost c_firstWorth c_found c_least c_seats c_secondWorth c_stand c_weight c_wish u_above u_below u_whole) (none) (w_X8_findStand c_askers c_places res.1 res.2.1 res.2.2.1 res.2.2.2.1 res.2.2.2.2.1 res.2.2.2.2.2.1 res.2.2.2.2.2.2.1 res.2.2.2.2.2.2.2.1 res.2.2.2.2.2.2.2.2.1 res.2.2.2.2.2.2.2.2.2.1 res.2.2.2.2.2.2.2.2.2.2 c_wish u_above u_below u_whole) := by
  refine Con.mk (show plainName RX8 = true by decide +kernel) (leb rfl) (fun κ ω A ad => ?_)
  change GG mu_X8_findStand κ ω A (QR κ ω A ad (none) (w_X8_findStand c_askers c_places res.1 res.2.1 res.2.2.1 res.2.2.2.1 res.2.2.2.2.1 res.2.2.2.2.2.1 res.2.2.2.2.2.2.1 res.2.2.2.2.2.2.2.1 res.2.2.2.2.2.2.2.2.1 res.2.2.2.2.2.2.2.2.2.1 res.2.2.2.2.2.2.2.2.2.2 c_wish u_above u_below u_whole)) ad 0 0 0 (w_X8_findStand c_askers c_places c_full c_firsts c_freed c_cost c_firstWorth c_found c_least c_seats c_secondWorth c_stand c_weight c_wish u_above u_below u_whole) [some (.ref 0), none, none, none, none, none, none] []
  refine G_aload_n dX8_findStand_0 rfl rfl ?_
  obtain ⟨⟨o1, o2, o3, o4, o5, o6, o7, o8, o9, o10⟩, hc11, hf⟩ := ob hf
  refine G_callV (μ2 := mu_X8_findStanding) (As := []) (w2 := (w_X8_findStand c_askers c_places o1 o2 o3 o4 o5 o6 o7 o8 o9 c_stand o10 c_wish u_above u_below u_whole)) (wc := (w_X8_findStanding c_askers c_places c_full c_firsts c_freed c_cost c_firstWorth c_found c_least c_seats c_secondWorth c_weight c_wish u_above u_below u_whole)) (wc2 := (w_X8_findStanding c_askers c_places o1 o2 o3 o4 o5 o6 o7 o8 o9 o10 c_wish u_above u_below u_whole)) (rest := []) (rv := []) [0, 1, 2, 3, 4, 5, 6, 8, 9] [1000, 1001, 1002, 1003, 7, 1004, 1005, 1006, 1007, 1008, 1009, 1010, 1011] [7] [1, 2, 3, 4, 5, 6, 7, 0, 8, 9] (c_X8_findStanding hc11) cw_X8_findStanding m_X8_184 dX8_findStand_1 rfl ⟨leb rfl, leb rfl⟩ ⟨rfl, rfl⟩ rfl ⟨_, rfl, rfl⟩ (Fit.mk rfl rfl rfl) rfl (leb rfl) (ROsub.nil rfl rfl) rfl ?_
  change GG _ _ _ _ _ _ _ _ _ (w_X8_findStand c_askers c_places o1 o2 o3 o4 o5 o6 o7 o8 o9 c_stand o10 c_wish u_above u_below u_whole) [some (.ref 0), none, none, none, none, none, none] []
  refine G_aload_n dX8_findStand_4 rfl rfl ?_
  obtain ⟨⟨o12, o13⟩, hc14, hf⟩ := ob hf
  refine G_callV (μ2 := mu_X8_findWeights) (As := []) (w2 := (w_X8_findStand c_askers c_places o12 o2 o3 o4 o5 o6 o7 o8 o9 c_stand o13 c_wish u_above u_below u_whole)) (wc := (w_X8_findWeights c_places o1 o8 o10 c_askers u_above u_below o2 o3 u_whole)) (wc2 := (w_X8_findWeights c_places o12 o8 o13 c_askers u_above u_below o2 o3 u_whole)) (rest := []) (rv := []) [0, 5, 8] [9, 1000, 1001, 3, 1, 4, 1002, 1003, 2, 6, 7, 1004, 1005, 1006, 1007, 1008, 1009, 1010, 1011] [1, 2, 3, 4, 6, 7, 9] [7, 0, 1, 2, 3, 8, 4, 5, 9, 6] (c_X8_findWeights hc14) cw_X8_findWeights m_X8_117 dX8_findStand_5 rfl ⟨leb rfl, leb rfl⟩ ⟨rfl, rfl⟩ rfl ⟨_, rfl, rfl⟩ (Fit.mk rfl rfl rfl) rfl (leb rfl) (ROsub.nil rfl rfl) rfl ?_
  change GG _ _ _ _ _ _ _ _ _ (w_X8_findStand c_askers c_places o12 o2 o3 o4 o5 o6 o7 o8 o9 c_stand o13 c_wish u_above u_below u_whole) [some (.ref 0), none, none, none, none, none, none] []
  refine G_iconst 0 dX8_findStand_8 (by decide) ?_
  refine G_istore_n dX8_findStand_9 rfl (ltb rfl) ?_
  change GG _ _ _ _ _ _ _ _ _ _ [some (.ref 0), some (.int 0), none, none, none, none, none] _
  exact g_X8_findStand_10 N hf
set_option maxRecDepth 20000 in
theorem dX8_standing_0 : decode cX8_standing 0 = .ok (.aload_n 0, 1) := by decide +kernel
set_option maxRecDepth 20000 in
theorem dX8_standing_1 : decode cX8_standing 1 = .ok (.invokevirtual 197, 3) := by decide +kernel
set_option maxRecDepth 20000 in
theorem dX8_standing_4 : decode cX8_standing 4 = .ok (.aload_n 0, 1) := by decide +kernel
set_option maxRecDepth 20000 in
theorem dX8_standing_5 : decode cX8_standing 5 = .ok (.getfield 49, 3) := by decide +kernel
set_option maxRecDepth 20000 in
theorem dX8_standing_8 : decode cX8_standing 8 = .ok (.aload_n 0, 1) := by decide +kernel
set_option maxRecDepth 20000 in
theorem dX8_standing_9 : decode cX8_standing 9 = .ok (.iconst 0, 1) := by decide +kernel
set_option maxRecDepth 20000 in
theorem dX8_standing_10 : decode cX8_standing 10 = .ok (.aload_n 0, 1) := by decide +kernel
set_option maxRecDepth 20000 in
theorem dX8_standing_11 : decode cX8_standing 11 = .ok (.getfield 174, 3) := by decide +kernel
set_option maxRecDepth 20000 in
theorem dX8_standing_14 : decode cX8_standing 14 = .ok (.aload_n 0, 1) := by decide +kernel
set_option maxRecDepth 20000 in
theorem dX8_standing_15 : decode cX8_standing 15 = .ok (.getfield 114, 3) := by decide +kernel
set_option maxRecDepth 20000 in
theorem dX8_standing_18 : decode cX8_standing 18 = .ok (.invokevirtual 187, 3) := by decide +kernel
set_option maxRecDepth 20000 in
theorem dX8_standing_21 : decode cX8_standing 21 = .ok (.laload, 1) := by decide +kernel
set_option maxRecDepth 20000 in
theorem dX8_standing_22 : decode cX8_standing 22 = .ok (.lreturn, 1) := by decide +kernel
def f_X8_standing (N : Nat) (c_askers : Int32) (c_places : Int32) (c_wish : Nat → Int32) (c_full : Int32) (c_firsts : Int32) (c_freed : Int32) (c_cost : Nat → Int64) (c_firstWorth : Nat → Int32) (c_found : Nat → Int32) (c_least : Nat → Int64) (c_seats : Nat → Int32) (c_secondWorth : Nat → Int32) (c_stand : Nat → Int64) (c_weight : Nat → Int32)  : Option (Int64 × Int32 × Int32 × Int32 × (Nat → Int64) × (Nat → Int32) × (Nat → Int32) × (Nat → Int64) × (Nat → Int32) × (Nat → Int32) × (Nat → Int64) × (Nat → Int32)) :=
  (f_X8_findStand N c_askers c_places c_wish c_full c_firsts c_freed c_cost c_firstWorth c_found c_least c_seats c_secondWorth c_stand c_weight).bind fun (o1, o2, o3, o4, o5, o6, o7, o8, o9, o10, o11) =>
  (f_X8_standAt N 0 o2 o1).bind fun r13 =>
  (rdL 331776 o10 r13).bind fun t15 =>
  some (t15, o1, o2, o3, o4, o5, o6, o7, o8, o9, o10, o11)
set_option maxHeartbeats 4000000 in
set_option maxRecDepth 100000 in
theorem c_X8_standing {N : Nat} {c_askers : Int32} {c_places : Int32} {c_wish : Nat → Int32} {c_full : Int32} {c_firsts : Int32} {c_freed : Int32} {c_cost : Nat → Int64} {c_firstWorth : Nat → Int32} {c_found : Nat → Int32} {c_least : Nat → Int64} {c_seats : Nat → Int32} {c_secondWorth : Nat → Int32} {c_stand : Nat → Int64} {c_weight : Nat → Int32} {u_above : Int64} {u_below : Int64} {u_whole : Int64}  {res : Int64 × Int32 × Int32 × Int32 × (Nat → Int64) × (Nat → Int32) × (Nat → Int32) × (Nat → Int64) × (Nat → Int32) × (Nat → Int32) × (Nat → Int64) × (Nat → Int32)} (hf : f_X8_standing N c_askers c_places c_wish c_full c_firsts c_freed c_cost c_firstWorth c_found c_least c_seats c_secondWorth c_stand c_weight = some res) : Con mu_X8_standing [.ref 0] (w_X8_standing c_askers c_places c_full c_firsts c_freed c_cost c_firstWorth c_found c_least c_seats c_secondWorth c_stand c_weight c_wish u_above u_below u_whole) (some (.long res.1)) (w_X8_standing c_askers c_places res.2.1 res.2.2.1 res.2.2.2.1 res.2.2.2.2.1 res.2.2.2.2.2.1 res.2.2.2.2.2.2.1 res.2.2.2.2.2.2.2.1 res.2.2.2.2.2.2.2.2.1 res.2.2.2.2.2.2.2.2.2.1 res.2.2.2.2.2.2.2.2.2.2.1 res.2.2.2.2.2.2.2.2.2.2.2 c_wish u_above u_below u_whole) := by
  refine Con.mk (show plainName RX8 = true by decide +kernel) (leb rfl) (fun κ ω A ad => ?_)
  change GG mu_X8_standing κ ω A (QR κ ω A ad (some (.long res.1)) (w_X8_standing c_askers c_places res.2.1 res.2.2.1 res.2.2.2.1 res.2.2.2.2.1 res.2.2.2.2.2.1 res.2.2.2.2.2.2.1 res.2.2.2.2.2.2.2.1 res.2.2.2.2.2.2.2.2.1 res.2.2.2.2.2.2.2.2.2.1 res.2.2.2.2.2.2.2.2.2.2.1 res.2.2.2.2.2.2.2.2.2.2.2 c_wish u_above u_below u_whole)) ad 0 0 0 (w_X8_standing c_askers c_places c_full c_firsts c_freed c_cost c_firstWorth c_found c_least c_seats c_secondWorth c_stand c_weight c_wish u_above u_below u_whole) [some (.ref 0)] []
  refine G_aload_n dX8_standing_0 rfl rfl ?_
  obtain ⟨⟨o1, o2, o3, o4, o5, o6, o7, o8, o9, o10, o11⟩, hc12, hf⟩ := ob hf
  refine G_callV (μ2 := mu_X8_findStand) (As := []) (w2 := (w_X8_standing c_askers c_places o1 o2 o3 o4 o5 o6 o7 o8 o9 o10 o11 c_wish u_above u_below u_whole)) (wc := (w_X8_findStand c_askers c_places c_full c_firsts c_freed c_cost c_firstWorth c_found c_least c_seats c_secondWorth c_stand c_weight c_wish u_above u_below u_whole)) (wc2 := (w_X8_findStand c_askers c_places o1 o2 o3 o4 o5 o6 o7 o8 o9 o10 o11 c_wish u_above u_below u_whole)) (rest := []) (rv := []) [0, 1, 2, 3, 4, 5, 6, 7, 8, 9] [1000, 1001, 1002, 1003, 1004, 1005, 1006, 1007, 1008, 1009, 1010, 1011] [] [0, 1, 2, 3, 4, 5, 6, 7, 8, 9] (c_X8_findStand hc12) cw_X8_findStand m_X8_197 dX8_standing_1 rfl ⟨leb rfl, leb rfl⟩ ⟨rfl, rfl⟩ rfl ⟨_, rfl, rfl⟩ (Fit.mk rfl rfl rfl) rfl (leb rfl) (ROsub.nil rfl rfl) rfl ?_
  change GG _ _ _ _ _ _ _ _ _ (w_X8_standing c_askers c_places o1 o2 o3 o4 o5 o6 o7 o8 o9 o10 o11 c_wish u_above u_below u_whole) [some (.ref 0)] []
  refine G_aload_n dX8_standing_4 rfl rfl ?_
  refine G_get (v := .ref 7) F_X8_49 dX8_standing_5 rfl rfl ?_
  refine G_aload_n dX8_standing_8 rfl rfl ?_
  refine G_iconst 0 dX8_standing_9 (by decide) ?_
  refine G_aload_n dX8_standing_10 rfl rfl ?_
  refine G_get (v := .int o2) F_X8_174 dX8_standing_11 rfl rfl ?_
  refine G_aload_n dX8_standing_14 rfl rfl ?_
  refine G_get (v := .int o1) F_X8_114 dX8_standing_15 rfl rfl ?_
  obtain ⟨r13, hc14, hf⟩ := ob hf
  refine G_callV (μ2 := mu_X8_standAt) (As := [.int 0, .int o2, .int o1]) (w2 := (w_X8_standing c_askers c_places o1 o2 o3 o4 o5 o6 o7 o8 o9 o10 o11 c_wish u_above u_below u_whole)) (wc := (w_X8_standAt c_askers c_places u_above u_below o1 o2 o3 u_whole)) (wc2 := (w_X8_standAt c_askers c_places u_above u_below o1 o2 o3 u_whole)) (rest := [.ref 7]) (rv := [.int r13]) [0] [5, 9, 1000, 8, 1001, 3, 1, 4, 1002, 1003, 2, 6, 7, 1004, 1005, 1006, 1007, 1008, 1009, 1010, 1011] [1, 2, 3, 4, 5, 6, 7, 8, 9] [9, 0, 1, 2, 3, 4, 5, 6, 7, 8] (c_X8_standAt hc14) cw_X8_standAt m_X8_187 dX8_standing_18 rfl ⟨leb rfl, leb rfl⟩ ⟨rfl, rfl⟩ rfl ⟨_, rfl, rfl⟩ (Fit.mk rfl rfl rfl) rfl (leb rfl) (ROsub.nil rfl rfl) rfl ?_
  change GG _ _ _ _ _ _ _ _ _ (w_X8_standing c_askers c_places o1 o2 o3 o4 o5 o6 o7 o8 o9 o10 o11 c_wish u_above u_below u_whole) [some (.ref 0)] [.int r13, .ref 7]
  obtain ⟨t15, ht15, hf⟩ := ob hf
  refine G_lald dX8_standing_21 rfl ht15 ?_
  obtain rfl := os hf
  exact G_lreturn dX8_standing_22 rfl
set_option maxRecDepth 20000 in
theorem dX8_standingAt_0 : decode cX8_standingAt 0 = .ok (.aload_n 0, 1) := by decide +kernel
set_option maxRecDepth 20000 in
theorem dX8_standingAt_1 : decode cX8_standingAt 1 = .ok (.invokevirtual 197, 3) := by decide +kernel
set_option maxRecDepth 20000 in
theorem dX8_standingAt_4 : decode cX8_standingAt 4 = .ok (.aload_n 0, 1) := by decide +kernel
set_option maxRecDepth 20000 in
theorem dX8_standingAt_5 : decode cX8_standingAt 5 = .ok (.iload_n 3, 1) := by decide +kernel
set_option maxRecDepth 20000 in
theorem dX8_standingAt_6 : decode cX8_standingAt 6 = .ok (.invokevirtual 108, 3) := by decide +kernel
set_option maxRecDepth 20000 in
theorem dX8_standingAt_9 : decode cX8_standingAt 9 = .ok (.ifCond .eq 32, 3) := by decide +kernel
set_option maxRecDepth 20000 in
theorem dX8_standingAt_12 : decode cX8_standingAt 12 = .ok (.lload_n 1, 1) := by decide +kernel
set_option maxRecDepth 20000 in
theorem dX8_standingAt_13 : decode cX8_standingAt 13 = .ok (.lconst 0, 1) := by decide +kernel
set_option maxRecDepth 20000 in
theorem dX8_standingAt_14 : decode cX8_standingAt 14 = .ok (.lcmp, 1) := by decide +kernel
set_option maxRecDepth 20000 in
theorem dX8_standingAt_15 : decode cX8_standingAt 15 = .ok (.ifCond .lt 26, 3) := by decide +kernel
set_option maxRecDepth 20000 in
theorem dX8_standingAt_18 : decode cX8_standingAt 18 = .ok (.lload_n 1, 1) := by decide +kernel
set_option maxRecDepth 20000 in
theorem dX8_standingAt_19 : decode cX8_standingAt 19 = .ok (.aload_n 0, 1) := by decide +kernel
set_option maxRecDepth 20000 in
theorem dX8_standingAt_20 : decode cX8_standingAt 20 = .ok (.getfield 49, 3) := by decide +kernel
set_option maxRecDepth 20000 in
theorem dX8_standingAt_23 : decode cX8_standingAt 23 = .ok (.aload_n 0, 1) := by decide +kernel
set_option maxRecDepth 20000 in
theorem dX8_standingAt_24 : decode cX8_standingAt 24 = .ok (.iconst 0, 1) := by decide +kernel
set_option maxRecDepth 20000 in
theorem dX8_standingAt_25 : decode cX8_standingAt 25 = .ok (.aload_n 0, 1) := by decide +kernel
set_option maxRecDepth 20000 in
theorem dX8_standingAt_26 : decode cX8_standingAt 26 = .ok (.getfield 174, 3) := by decide +kernel
set_option maxRecDepth 20000 in
theorem dX8_standingAt_29 : decode cX8_standingAt 29 = .ok (.aload_n 0, 1) := by decide +kernel
set_option maxRecDepth 20000 in
theorem dX8_standingAt_30 : decode cX8_standingAt 30 = .ok (.getfield 114, 3) := by decide +kernel
set_option maxRecDepth 20000 in
theorem dX8_standingAt_33 : decode cX8_standingAt 33 = .ok (.invokevirtual 187, 3) := by decide +kernel
set_option maxRecDepth 20000 in
theorem dX8_standingAt_36 : decode cX8_standingAt 36 = .ok (.laload, 1) := by decide +kernel
set_option maxRecDepth 20000 in
theorem dX8_standingAt_37 : decode cX8_standingAt 37 = .ok (.lcmp, 1) := by decide +kernel
set_option maxRecDepth 20000 in
theorem dX8_standingAt_38 : decode cX8_standingAt 38 = .ok (.ifCond .lt 6, 3) := by decide +kernel
set_option maxRecDepth 20000 in
theorem dX8_standingAt_41 : decode cX8_standingAt 41 = .ok (.bipush (-2), 2) := by decide +kernel
set_option maxRecDepth 20000 in
theorem dX8_standingAt_43 : decode cX8_standingAt 43 = .ok (.ireturn, 1) := by decide +kernel
set_option maxRecDepth 20000 in
theorem dX8_standingAt_44 : decode cX8_standingAt 44 = .ok (.lload_n 1, 1) := by decide +kernel
set_option maxRecDepth 20000 in
theorem dX8_standingAt_45 : decode cX8_standingAt 45 = .ok (.lstore 4, 2) := by decide +kernel
set_option maxRecDepth 20000 in
theorem dX8_standingAt_47 : decode cX8_standingAt 47 = .ok (.aload_n 0, 1) := by decide +kernel
set_option maxRecDepth 20000 in
theorem dX8_standingAt_48 : decode cX8_standingAt 48 = .ok (.getfield 114, 3) := by decide +kernel
set_option maxRecDepth 20000 in
theorem dX8_standingAt_51 : decode cX8_standingAt 51 = .ok (.istore 6, 2) := by decide +kernel
set_option maxRecDepth 20000 in
theorem dX8_standingAt_53 : decode cX8_standingAt 53 = .ok (.aload_n 0, 1) := by decide +kernel
set_option maxRecDepth 20000 in
theorem dX8_standingAt_54 : decode cX8_standingAt 54 = .ok (.getfield 174, 3) := by decide +kernel
set_option maxRecDepth 20000 in
theorem dX8_standingAt_57 : decode cX8_standingAt 57 = .ok (.istore 7, 2) := by decide +kernel
set_option maxRecDepth 20000 in
theorem dX8_standingAt_59 : decode cX8_standingAt 59 = .ok (.iconst 0, 1) := by decide +kernel
set_option maxRecDepth 20000 in
theorem dX8_standingAt_60 : decode cX8_standingAt 60 = .ok (.istore 8, 2) := by decide +kernel
set_option maxRecDepth 20000 in
theorem dX8_standingAt_62 : decode cX8_standingAt 62 = .ok (.iconst 0, 1) := by decide +kernel
set_option maxRecDepth 20000 in
theorem dX8_standingAt_63 : decode cX8_standingAt 63 = .ok (.istore 9, 2) := by decide +kernel
set_option maxRecDepth 20000 in
theorem dX8_standingAt_65 : decode cX8_standingAt 65 = .ok (.iload 9, 2) := by decide +kernel
set_option maxRecDepth 20000 in
theorem dX8_standingAt_67 : decode cX8_standingAt 67 = .ok (.iload_n 3, 1) := by decide +kernel
set_option maxRecDepth 20000 in
theorem dX8_standingAt_68 : decode cX8_standingAt 68 = .ok (.if_icmp .gt 86, 3) := by decide +kernel
set_option maxRecDepth 20000 in
theorem dX8_standingAt_71 : decode cX8_standingAt 71 = .ok (.iconst 0, 1) := by decide +kernel
set_option maxRecDepth 20000 in
theorem dX8_standingAt_72 : decode cX8_standingAt 72 = .ok (.istore 8, 2) := by decide +kernel
set_option maxRecDepth 20000 in
theorem dX8_standingAt_74 : decode cX8_standingAt 74 = .ok (.lload 4, 2) := by decide +kernel
set_option maxRecDepth 20000 in
theorem dX8_standingAt_76 : decode cX8_standingAt 76 = .ok (.aload_n 0, 1) := by decide +kernel
set_option maxRecDepth 20000 in
theorem dX8_standingAt_77 : decode cX8_standingAt 77 = .ok (.iload 9, 2) := by decide +kernel
set_option maxRecDepth 20000 in
theorem dX8_standingAt_79 : decode cX8_standingAt 79 = .ok (.iload 8, 2) := by decide +kernel
set_option maxRecDepth 20000 in
theorem dX8_standingAt_81 : decode cX8_standingAt 81 = .ok (.iload 7, 2) := by decide +kernel
set_option maxRecDepth 20000 in
theorem dX8_standingAt_83 : decode cX8_standingAt 83 = .ok (.iload 6, 2) := by decide +kernel
set_option maxRecDepth 20000 in
theorem dX8_standingAt_85 : decode cX8_standingAt 85 = .ok (.invokevirtual 190, 3) := by decide +kernel
set_option maxRecDepth 20000 in
theorem dX8_standingAt_88 : decode cX8_standingAt 88 = .ok (.lcmp, 1) := by decide +kernel
set_option maxRecDepth 20000 in
theorem dX8_standingAt_89 : decode cX8_standingAt 89 = .ok (.ifCond .lt 26, 3) := by decide +kernel
set_option maxRecDepth 20000 in
theorem dX8_standingAt_92 : decode cX8_standingAt 92 = .ok (.lload 4, 2) := by decide +kernel
set_option maxRecDepth 20000 in
theorem dX8_standingAt_94 : decode cX8_standingAt 94 = .ok (.aload_n 0, 1) := by decide +kernel
set_option maxRecDepth 20000 in
theorem dX8_standingAt_95 : decode cX8_standingAt 95 = .ok (.iload 9, 2) := by decide +kernel
set_option maxRecDepth 20000 in
theorem dX8_standingAt_97 : decode cX8_standingAt 97 = .ok (.iload 8, 2) := by decide +kernel
set_option maxRecDepth 20000 in
theorem dX8_standingAt_99 : decode cX8_standingAt 99 = .ok (.iload 7, 2) := by decide +kernel
set_option maxRecDepth 20000 in
theorem dX8_standingAt_101 : decode cX8_standingAt 101 = .ok (.iload 6, 2) := by decide +kernel
set_option maxRecDepth 20000 in
theorem dX8_standingAt_103 : decode cX8_standingAt 103 = .ok (.invokevirtual 190, 3) := by decide +kernel
set_option maxRecDepth 20000 in
theorem dX8_standingAt_106 : decode cX8_standingAt 106 = .ok (.lsub, 1) := by decide +kernel
set_option maxRecDepth 20000 in
theorem dX8_standingAt_107 : decode cX8_standingAt 107 = .ok (.lstore 4, 2) := by decide +kernel
set_option maxRecDepth 20000 in
theorem dX8_standingAt_109 : decode cX8_standingAt 109 = .ok (.iinc 8 1, 3) := by decide +kernel
set_option maxRecDepth 20000 in
theorem dX8_standingAt_112 : decode cX8_standingAt 112 = .ok (.goto (-38), 3) := by decide +kernel
set_option maxRecDepth 20000 in
theorem dX8_standingAt_115 : decode cX8_standingAt 115 = .ok (.iload 7, 2) := by decide +kernel
set_option maxRecDepth 20000 in
theorem dX8_standingAt_117 : decode cX8_standingAt 117 = .ok (.aload_n 0, 1) := by decide +kernel
set_option maxRecDepth 20000 in
theorem dX8_standingAt_118 : decode cX8_standingAt 118 = .ok (.iload 9, 2) := by decide +kernel
set_option maxRecDepth 20000 in
theorem dX8_standingAt_120 : decode cX8_standingAt 120 = .ok (.iload 8, 2) := by decide +kernel
set_option maxRecDepth 20000 in
theorem dX8_standingAt_122 : decode cX8_standingAt 122 = .ok (.invokevirtual 180, 3) := by decide +kernel
set_option maxRecDepth 20000 in
theorem dX8_standingAt_125 : decode cX8_standingAt 125 = .ok (.ifCond .eq 7, 3) := by decide +kernel
set_option maxRecDepth 20000 in
theorem dX8_standingAt_128 : decode cX8_standingAt 128 = .ok (.iconst 1, 1) := by decide +kernel
set_option maxRecDepth 20000 in
theorem dX8_standingAt_129 : decode cX8_standingAt 129 = .ok (.goto 4, 3) := by decide +kernel
set_option maxRecDepth 20000 in
theorem dX8_standingAt_132 : decode cX8_standingAt 132 = .ok (.iconst 0, 1) := by decide +kernel
set_option maxRecDepth 20000 in
theorem dX8_standingAt_133 : decode cX8_standingAt 133 = .ok (.isub, 1) := by decide +kernel
set_option maxRecDepth 20000 in
theorem dX8_standingAt_134 : decode cX8_standingAt 134 = .ok (.istore 7, 2) := by decide +kernel
set_option maxRecDepth 20000 in
theorem dX8_standingAt_136 : decode cX8_standingAt 136 = .ok (.aload_n 0, 1) := by decide +kernel
set_option maxRecDepth 20000 in
theorem dX8_standingAt_137 : decode cX8_standingAt 137 = .ok (.iload 9, 2) := by decide +kernel
set_option maxRecDepth 20000 in
theorem dX8_standingAt_139 : decode cX8_standingAt 139 = .ok (.iload 8, 2) := by decide +kernel
set_option maxRecDepth 20000 in
theorem dX8_standingAt_141 : decode cX8_standingAt 141 = .ok (.iload 6, 2) := by decide +kernel
set_option maxRecDepth 20000 in
theorem dX8_standingAt_143 : decode cX8_standingAt 143 = .ok (.invokevirtual 120, 3) := by decide +kernel
set_option maxRecDepth 20000 in
theorem dX8_standingAt_146 : decode cX8_standingAt 146 = .ok (.istore 6, 2) := by decide +kernel
set_option maxRecDepth 20000 in
theorem dX8_standingAt_148 : decode cX8_standingAt 148 = .ok (.iinc 9 1, 3) := by decide +kernel
set_option maxRecDepth 20000 in
theorem dX8_standingAt_151 : decode cX8_standingAt 151 = .ok (.goto (-86), 3) := by decide +kernel
set_option maxRecDepth 20000 in
theorem dX8_standingAt_154 : decode cX8_standingAt 154 = .ok (.iload 8, 2) := by decide +kernel
set_option maxRecDepth 20000 in
theorem dX8_standingAt_156 : decode cX8_standingAt 156 = .ok (.iconst 1, 1) := by decide +kernel
set_option maxRecDepth 20000 in
theorem dX8_standingAt_157 : decode cX8_standingAt 157 = .ok (.isub, 1) := by decide +kernel
set_option maxRecDepth 20000 in
theorem dX8_standingAt_158 : decode cX8_standingAt 158 = .ok (.ireturn, 1) := by decide +kernel
def f_X8_standingAt_133 (N : Nat) (c_askers : Int32) (c_places : Int32) (c_wish : Nat → Int32) (k65 : Int32 → Int32 → Int32 → (Nat → Int64) → (Nat → Int32) → (Nat → Int32) → (Nat → Int64) → (Nat → Int32) → (Nat → Int32) → (Nat → Int64) → (Nat → Int32) → Int32 → Int64 → Int32 → Int32 → Int32 → Int32 → Option (Int32 × Int32 × Int32 × Int32 × (Nat → Int64) × (Nat → Int32) × (Nat → Int32) × (Nat → Int64) × (Nat → Int32) × (Nat → Int32) × (Nat → Int64) × (Nat → Int32))) (c_full : Int32) (c_firsts : Int32) (c_freed : Int32) (c_cost : Nat → Int64) (c_firstWorth : Nat → Int32) (c_found : Nat → Int32) (c_least : Nat → Int64) (c_seats : Nat → Int32) (c_secondWorth : Nat → Int32) (c_stand : Nat → Int64) (c_weight : Nat → Int32) (v3 : Int32) (v4 : Int64) (v6 : Int32) (v8 : Int32) (v9 : Int32) (s0 : Int32) (s1 : Int32) : Option (Int32 × Int32 × Int32 × Int32 × (Nat → Int64) × (Nat → Int32) × (Nat → Int32) × (Nat → Int64) × (Nat → Int32) × (Nat → Int32) × (Nat → Int64) × (Nat → Int32)) :=
    (f_X8_takes N c_places c_seats c_weight c_wish v9 v8 v6).bind fun r1 =>
    k65 c_full c_firsts c_freed c_cost c_firstWorth c_found c_least c_seats c_secondWorth c_stand c_weight v3 v4 r1 (s0 - s1) v8 (v9 + 1)
set_option maxHeartbeats 4000000 in
set_option maxRecDepth 100000 in
theorem g_X8_standingAt_133 {κ : KC} {ω : KW} {A : Nat → Prop} {ad : Nat → Nat} {u_above : Int64} {u_below : Int64} {u_whole : Int64} {N : Nat} {c_askers : Int32} {c_places : Int32} {c_wish : Nat → Int32}  {k65 : Int32 → Int32 → Int32 → (Nat → Int64) → (Nat → Int32) → (Nat → Int32) → (Nat → Int64) → (Nat → Int32) → (Nat → Int32) → (Nat → Int64) → (Nat → Int32) → Int32 → Int64 → Int32 → Int32 → Int32 → Int32 → Option (Int32 × Int32 × Int32 × Int32 × (Nat → Int64) × (Nat → Int32) × (Nat → Int32) × (Nat → Int64) × (Nat → Int32) × (Nat → Int32) × (Nat → Int64) × (Nat → Int32))} {res : Int32 × Int32 × Int32 × Int32 × (Nat → Int64) × (Nat → Int32) × (Nat → Int32) × (Nat → Int64) × (Nat → Int32) × (Nat → Int32) × (Nat → Int64) × (Nat → Int32)} (hk65 : ∀ {c_full : Int32} {c_firsts : Int32} {c_freed : Int32} {c_cost : Nat → Int64} {c_firstWorth : Nat → Int32} {c_found : Nat → Int32} {c_least : Nat → Int64} {c_seats : Nat → Int32} {c_secondWorth : Nat → Int32} {c_stand : Nat → Int64} {c_weight : Nat → Int32} {v3 : Int32} {v4 : Int64} {v6 : Int32} {v7 : Int32} {v8 : Int32} {v9 : Int32}, k65 c_full c_firsts c_freed c_cost c_firstWorth c_found c_least c_seats c_secondWorth c_stand c_weight v3 v4 v6 v7 v8 v9 = some res → GG mu_X8_standingAt κ ω A (QR κ ω A ad (some (.int res.1)) (w_X8_standingAt c_askers c_places res.2.1 res.2.2.1 res.2.2.2.1 res.2.2.2.2.1 res.2.2.2.2.2.1 res.2.2.2.2.2.2.1 res.2.2.2.2.2.2.2.1 res.2.2.2.2.2.2.2.2.1 res.2.2.2.2.2.2.2.2.2.1 res.2.2.2.2.2.2.2.2.2.2.1 res.2.2.2.2.2.2.2.2.2.2.2 c_wish u_above u_below u_whole)) ad 0 0 65 (w_X8_standingAt c_askers c_places c_full c_firsts c_freed c_cost c_firstWorth c_found c_least c_seats c_secondWorth c_stand c_weight c_wish u_above u_below u_whole) [some (.ref 0), none, none, some (.int v3), some (.long v4), none, some (.int v6), some (.int v7), some (.int v8), some (.int v9)] []) {c_full : Int32} {c_firsts : Int32} {c_freed : Int32} {c_cost : Nat → Int64} {c_firstWorth : Nat → Int32} {c_found : Nat → Int32} {c_least : Nat → Int64} {c_seats : Nat → Int32} {c_secondWorth : Nat → Int32} {c_stand : Nat → Int64} {c_weight : Nat → Int32} {v3 : Int32} {v4 : Int64} {v6 : Int32} {v8 : Int32} {v9 : Int32} {s0 : Int32} {s1 : Int32} (hf : f_X8_standingAt_133 N c_askers c_places c_wish k65 c_full c_firsts c_freed c_cost c_firstWorth c_found c_least c_seats c_secondWorth c_stand c_weight v3 v4 v6 v8 v9 s0 s1 = some res) : GG mu_X8_standingAt κ ω A (QR κ ω A ad (some (.int res.1)) (w_X8_standingAt c_askers c_places res.2.1 res.2.2.1 res.2.2.2.1 res.2.2.2.2.1 res.2.2.2.2.2.1 res.2.2.2.2.2.2.1 res.2.2.2.2.2.2.2.1 res.2.2.2.2.2.2.2.2.1 res.2.2.2.2.2.2.2.2.2.1 res.2.2.2.2.2.2.2.2.2.2.1 res.2.2.2.2.2.2.2.2.2.2.2 c_wish u_above u_below u_whole)) ad 0 0 133 (w_X8_standingAt c_askers c_places c_full c_firsts c_freed c_cost c_firstWorth c_found c_least c_seats c_secondWorth c_stand c_weight c_wish u_above u_below u_whole) [some (.ref 0), none, none, some (.int v3), some (.long v4), none, some (.int v6), none, some (.int v8), some (.int v9)] [.int s1, .int s0] := by
  refine G_isub dX8_standingAt_133 ?_
  refine G_istore dX8_standingAt_134 (ltb rfl) ?_
  change GG _ _ _ _ _ _ _ _ _ _ [some (.ref 0), none, none, some (.int v3), some (.long v4), none, some (.int v6), some (.int (s0 - s1)), some (.int v8), some (.int v9)] _
  refine G_aload_n dX8_standingAt_136 rfl rfl ?_
  refine G_iload dX8_standingAt_137 rfl ?_
  refine G_iload dX8_standingAt_139 rfl ?_
  refine G_iload dX8_standingAt_141 rfl ?_
  obtain ⟨r1, hc2, hf⟩ := ob hf
  refine G_callV (μ2 := mu_X8_takes) (As := [.int v9, .int v8, .int v6]) (w2 := (w_X8_standingAt c_askers c_places c_full c_firsts c_freed c_cost c_firstWorth c_found c_least c_seats c_secondWorth c_stand c_weight c_wish u_above u_below u_whole)) (wc := (w_X8_takes c_places c_seats c_weight c_wish c_askers u_above u_below c_full c_firsts c_freed u_whole)) (wc2 := (w_X8_takes c_places c_seats c_weight c_wish c_askers u_above u_below c_full c_firsts c_freed u_whole)) (rest := []) (rv := [.int r1]) [0, 5, 8, 9] [1000, 1001, 3, 1, 4, 1002, 1003, 2, 6, 7, 1004, 1005, 1006, 1007, 1008, 1009, 1010, 1011] [1, 2, 3, 4, 6, 7] [6, 0, 1, 2, 3, 7, 4, 5, 8, 9] (c_X8_takes hc2) cw_X8_takes m_X8_120 dX8_standingAt_143 rfl ⟨leb rfl, leb rfl⟩ ⟨rfl, rfl⟩ rfl ⟨_, rfl, rfl⟩ (Fit.mk rfl rfl rfl) rfl (leb rfl) (ROsub.nil rfl rfl) rfl ?_
  change GG _ _ _ _ _ _ _ _ _ (w_X8_standingAt c_askers c_places c_full c_firsts c_freed c_cost c_firstWorth c_found c_least c_seats c_secondWorth c_stand c_weight c_wish u_above u_below u_whole) [some (.ref 0), none, none, some (.int v3), some (.long v4), none, some (.int v6), some (.int (s0 - s1)), some (.int v8), some (.int v9)] [.int r1]
  refine G_istore dX8_standingAt_146 (ltb rfl) ?_
  change GG _ _ _ _ _ _ _ _ _ _ [some (.ref 0), none, none, some (.int v3), some (.long v4), none, some (.int r1), some (.int (s0 - s1)), some (.int v8), some (.int v9)] _
  refine G_iinc 1 dX8_standingAt_148 (by decide) rfl (ltb rfl) ?_
  change GG _ _ _ _ _ _ _ _ _ _ [some (.ref 0), none, none, some (.int v3), some (.long v4), none, some (.int r1), some (.int (s0 - s1)), some (.int v8), some (.int (v9 + 1))] _
  refine G_goto 65 dX8_standingAt_151 (by decide) ?_
  exact hk65 hf
def f_X8_standingAt_74 (N : Nat) (c_askers : Int32) (c_places : Int32) (c_wish : Nat → Int32) (k65 : Int32 → Int32 → Int32 → (Nat → Int64) → (Nat → Int32) → (Nat → Int32) → (Nat → Int64) → (Nat → Int32) → (Nat → Int32) → (Nat → Int64) → (Nat → Int32) → Int32 → Int64 → Int32 → Int32 → Int32 → Int32 → Option (Int32 × Int32 × Int32 × Int32 × (Nat → Int64) × (Nat → Int32) × (Nat → Int32) × (Nat → Int64) × (Nat → Int32) × (Nat → Int32) × (Nat → Int64) × (Nat → Int32))) : Nat → Int32 → Int32 → Int32 → (Nat → Int64) → (Nat → Int32) → (Nat → Int32) → (Nat → Int64) → (Nat → Int32) → (Nat → Int32) → (Nat → Int64) → (Nat → Int32) → Int32 → Int64 → Int32 → Int32 → Int32 → Int32 → Option (Int32 × Int32 × Int32 × Int32 × (Nat → Int64) × (Nat → Int32) × (Nat → Int32) × (Nat → Int64) × (Nat → Int32) × (Nat → Int32) × (Nat → Int64) × (Nat → Int32))
  | 0, _, _, _, _, _, _, _, _, _, _, _, _, _, _, _, _, _ => none
  | n + 1, c_full, c_firsts, c_freed, c_cost, c_firstWorth, c_found, c_least, c_seats, c_secondWorth, c_stand, c_weight, v3, v4, v6, v7, v8, v9 =>
    (f_X8_standOn N c_places c_freed c_firstWorth c_seats c_secondWorth c_stand c_weight c_wish v9 v8 v7 v6).bind fun r1 =>
    (if v4 < r1 then
      (f_X8_isFirst N c_firstWorth c_wish v9 v8).bind fun r4 =>
      (if r4 = 0 then
        f_X8_standingAt_133 N c_askers c_places c_wish k65 c_full c_firsts c_freed c_cost c_firstWorth c_found c_least c_seats c_secondWorth c_stand c_weight v3 v4 v6 v8 v9 v7 0
      else
        f_X8_standingAt_133 N c_askers c_places c_wish k65 c_full c_firsts c_freed c_cost c_firstWorth c_found c_least c_seats c_secondWorth c_stand c_weight v3 v4 v6 v8 v9 v7 1)
    else
      (f_X8_standOn N c_places c_freed c_firstWorth c_seats c_secondWorth c_stand c_weight c_wish v9 v8 v7 v6).bind fun r7 =>
      f_X8_standingAt_74 N c_askers c_places c_wish k65 n c_full c_firsts c_freed c_cost c_firstWorth c_found c_least c_seats c_secondWorth c_stand c_weight v3 (v4 - r7) v6 v7 (v8 + 1) v9)
set_option maxHeartbeats 4000000 in
set_option maxRecDepth 100000 in
theorem g_X8_standingAt_74 {κ : KC} {ω : KW} {A : Nat → Prop} {ad : Nat → Nat} {u_above : Int64} {u_below : Int64} {u_whole : Int64} {N : Nat} {c_askers : Int32} {c_places : Int32} {c_wish : Nat → Int32}  {k65 : Int32 → Int32 → Int32 → (Nat → Int64) → (Nat → Int32) → (Nat → Int32) → (Nat → Int64) → (Nat → Int32) → (Nat → Int32) → (Nat → Int64) → (Nat → Int32) → Int32 → Int64 → Int32 → Int32 → Int32 → Int32 → Option (Int32 × Int32 × Int32 × Int32 × (Nat → Int64) × (Nat → Int32) × (Nat → Int32) × (Nat → Int64) × (Nat → Int32) × (Nat → Int32) × (Nat → Int64) × (Nat → Int32))} {res : Int32 × Int32 × Int32 × Int32 × (Nat → Int64) × (Nat → Int32) × (Nat → Int32) × (Nat → Int64) × (Nat → Int32) × (Nat → Int32) × (Nat → Int64) × (Nat → Int32)} (hk65 : ∀ {c_full : Int32} {c_firsts : Int32} {c_freed : Int32} {c_cost : Nat → Int64} {c_firstWorth : Nat → Int32} {c_found : Nat → Int32} {c_least : Nat → Int64} {c_seats : Nat → Int32} {c_secondWorth : Nat → Int32} {c_stand : Nat → Int64} {c_weight : Nat → Int32} {v3 : Int32} {v4 : Int64} {v6 : Int32} {v7 : Int32} {v8 : Int32} {v9 : Int32}, k65 c_full c_firsts c_freed c_cost c_firstWorth c_found c_least c_seats c_secondWorth c_stand c_weight v3 v4 v6 v7 v8 v9 = some res → GG mu_X8_standingAt κ ω A (QR κ ω A ad (some (.int res.1)) (w_X8_standingAt c_askers c_places res.2.1 res.2.2.1 res.2.2.2.1 res.2.2.2.2.1 res.2.2.2.2.2.1 res.2.2.2.2.2.2.1 res.2.2.2.2.2.2.2.1 res.2.2.2.2.2.2.2.2.1 res.2.2.2.2.2.2.2.2.2.1 res.2.2.2.2.2.2.2.2.2.2.1 res.2.2.2.2.2.2.2.2.2.2.2 c_wish u_above u_below u_whole)) ad 0 0 65 (w_X8_standingAt c_askers c_places c_full c_firsts c_freed c_cost c_firstWorth c_found c_least c_seats c_secondWorth c_stand c_weight c_wish u_above u_below u_whole) [some (.ref 0), none, none, some (.int v3), some (.long v4), none, some (.int v6), some (.int v7), some (.int v8), some (.int v9)] []) : ∀ (n : Nat) {c_full : Int32} {c_firsts : Int32} {c_freed : Int32} {c_cost : Nat → Int64} {c_firstWorth : Nat → Int32} {c_found : Nat → Int32} {c_least : Nat → Int64} {c_seats : Nat → Int32} {c_secondWorth : Nat → Int32} {c_stand : Nat → Int64} {c_weight : Nat → Int32} {v3 : Int32} {v4 : Int64} {v6 : Int32} {v7 : Int32} {v8 : Int32} {v9 : Int32}, f_X8_standingAt_74 N c_askers c_places c_wish k65 n c_full c_firsts c_freed c_cost c_firstWorth c_found c_least c_seats c_secondWorth c_stand c_weight v3 v4 v6 v7 v8 v9 = some res → GG mu_X8_standingAt κ ω A (QR κ ω A ad (some (.int res.1)) (w_X8_standingAt c_askers c_places res.2.1 res.2.2.1 res.2.2.2.1 res.2.2.2.2.1 res.2.2.2.2.2.1 res.2.2.2.2.2.2.1 res.2.2.2.2.2.2.2.1 res.2.2.2.2.2.2.2.2.1 res.2.2.2.2.2.2.2.2.2.1 res.2.2.2.2.2.2.2.2.2.2.1 res.2.2.2.2.2.2.2.2.2.2.2 c_wish u_above u_below u_whole)) ad 0 0 74 (w_X8_standingAt c_askers c_places c_full c_firsts c_freed c_cost c_firstWorth c_found c_least c_seats c_secondWorth c_stand c_weight c_wish u_above u_below u_whole) [some (.ref 0), none, none, some (.int v3), some (.long v4), none, some (.int v6), some (.int v7), some (.int v8), some (.int v9)] [] := by
  intro n
  induction n with
  | zero => intro c_full c_firsts c_freed c_cost c_firstWorth c_found c_least c_seats c_secondWorth c_stand c_weight v3 v4 v6 v7 v8 v9 hf; exact ob_0 hf
  | succ n ih =>
    intro c_full c_firsts c_freed c_cost c_firstWorth c_found c_least c_seats c_secondWorth c_stand c_weight v3 v4 v6 v7 v8 v9 hf
    refine G_lload dX8_standingAt_74 rfl ?_
    refine G_aload_n dX8_standingAt_76 rfl rfl ?_
    refine G_iload dX8_standingAt_77 rfl ?_
    refine G_iload dX8_standingAt_79 rfl ?_
    refine G_iload dX8_standingAt_81 rfl ?_
    refine G_iload dX8_standingAt_83 rfl ?_
    obtain ⟨r1, hc2, hf⟩ := ob hf
    refine G_callV (μ2 := mu_X8_standOn) (As := [.int v9, .int v8, .int v7, .int v6]) (w2 := (w_X8_standingAt c_askers c_places c_full c_firsts c_freed c_cost c_firstWorth c_found c_least c_seats c_secondWorth c_stand c_weight c_wish u_above u_below u_whole)) (wc := (w_X8_standOn c_places c_freed c_firstWorth c_seats c_secondWorth c_stand c_weight c_wish c_askers u_above u_below c_full c_firsts u_whole)) (wc2 := (w_X8_standOn c_places c_freed c_firstWorth c_seats c_secondWorth c_stand c_weight c_wish c_askers u_above u_below c_full c_firsts u_whole)) (rest := [.long v4]) (rv := [.long r1]) [0, 2, 5, 6, 7, 8, 9] [1000, 1001, 3, 1, 4, 1002, 1003, 1004, 1005, 1006, 1007, 1008, 1009, 1010, 1011] [1, 3, 4] [3, 0, 4, 1, 2, 5, 6, 7, 8, 9] (c_X8_standOn hc2) cw_X8_standOn m_X8_190 dX8_standingAt_85 rfl ⟨leb rfl, leb rfl⟩ ⟨rfl, rfl⟩ rfl ⟨_, rfl, rfl⟩ (Fit.mk rfl rfl rfl) rfl (leb rfl) (ROsub.nil rfl rfl) rfl ?_
    change GG _ _ _ _ _ _ _ _ _ (w_X8_standingAt c_askers c_places c_full c_firsts c_freed c_cost c_firstWorth c_found c_least c_seats c_secondWorth c_stand c_weight c_wish u_above u_below u_whole) [some (.ref 0), none, none, some (.int v3), some (.long v4), none, some (.int v6), some (.int v7), some (.int v8), some (.int v9)] [.long r1, .long v4]
    refine G_lcmp_lt 115 dX8_standingAt_88 dX8_standingAt_89 (by decide) (fun h3 => ?_) (fun h3 => ?_)
    · replace hf := ob_t h3 hf
      refine G_iload dX8_standingAt_115 rfl ?_
      refine G_aload_n dX8_standingAt_117 rfl rfl ?_
      refine G_iload dX8_standingAt_118 rfl ?_
      refine G_iload dX8_standingAt_120 rfl ?_
      obtain ⟨r4, hc5, hf⟩ := ob hf
      refine G_callV (μ2 := mu_X8_isFirst) (As := [.int v9, .int v8]) (w2 := (w_X8_standingAt c_askers c_places c_full c_firsts c_freed c_cost c_firstWorth c_found c_least c_seats c_secondWorth c_stand c_weight c_wish u_above u_below u_whole)) (wc := (w_X8_isFirst c_firstWorth c_wish c_askers c_places u_above u_below c_full c_firsts c_freed u_whole)) (wc2 := (w_X8_isFirst c_firstWorth c_wish c_askers c_places u_above u_below c_full c_firsts c_freed u_whole)) (rest := [.int v7]) (rv := [.int r4]) [0, 2, 9] [5, 1000, 8, 1001, 3, 1, 4, 1002, 1003, 6, 7, 1004, 1005, 1006, 1007, 1008, 1009, 1010, 1011] [1, 3, 4, 5, 6, 7, 8] [7, 0, 8, 1, 2, 3, 4, 5, 6, 9] (c_X8_isFirst hc5) cw_X8_isFirst m_X8_180 dX8_standingAt_122 rfl ⟨leb rfl, leb rfl⟩ ⟨rfl, rfl⟩ rfl ⟨_, rfl, rfl⟩ (Fit.mk rfl rfl rfl) rfl (leb rfl) (ROsub.nil rfl rfl) rfl ?_
      change GG _ _ _ _ _ _ _ _ _ (w_X8_standingAt c_askers c_places c_full c_firsts c_freed c_cost c_firstWorth c_found c_least c_seats c_secondWorth c_stand c_weight c_wish u_above u_below u_whole) [some (.ref 0), none, none, some (.int v3), some (.long v4), none, some (.int v6), some (.int v7), some (.int v8), some (.int v9)] [.int r4, .int v7]
      refine G_if_eq 132 dX8_standingAt_125 (by decide) (fun h6 => ?_) (fun h6 => ?_)
      · replace hf := ob_t h6 hf
        refine G_iconst 0 dX8_standingAt_132 (by decide) ?_
        refine GG.sb (lv2 := [some (.ref 0), none, none, some (.int v3), some (.long v4), none, some (.int v6), none, some (.int v8), some (.int v9)]) ?_ (lvS_v rfl (lvS_n (lvS_n (lvS_v rfl (lvS_v rfl (lvS_n (lvS_v rfl (lvS_n (lvS_v rfl (lvS_v rfl (lvS_e)))))))))))
        exact g_X8_standingAt_133 hk65 hf
      · replace hf := ob_f h6 hf
        refine G_iconst 1 dX8_standingAt_128 (by decide) ?_
        refine G_goto 133 dX8_standingAt_129 (by decide) ?_
        refine GG.sb (lv2 := [some (.ref 0), none, none, some (.int v3), some (.long v4), none, some (.int v6), none, some (.int v8), some (.int v9)]) ?_ (lvS_v rfl (lvS_n (lvS_n (lvS_v rfl (lvS_v rfl (lvS_n (lvS_v rfl (lvS_n (lvS_v rfl (lvS_v rfl (lvS_e)))))))))))
        exact g_X8_standingAt_133 hk65 hf
    · replace hf := ob_f h3 hf
      refine G_lload dX8_standingAt_92 rfl ?_
      refine G_aload_n dX8_standingAt_94 rfl rfl ?_
      refine G_iload dX8_standingAt_95 rfl ?_
      refine G_iload dX8_standingAt_97 rfl ?_
      refine G_iload dX8_standingAt_99 rfl ?_
      refine G_iload dX8_standingAt_101 rfl ?_
      obtain ⟨r7, hc8, hf⟩ := ob hf
      refine G_callV (μ2 := mu_X8_standOn) (As := [.int v9, .int v8, .int v7, .int v6]) (w2 := (w_X8_standingAt c_askers c_places c_full c_firsts c_freed c_cost c_firstWorth c_found c_least c_seats c_secondWorth c_stand c_weight c_wish u_above u_below u_whole)) (wc := (w_X8_standOn c_places c_freed c_firstWorth c_seats c_secondWorth c_stand c_weight c_wish c_askers u_above u_below c_full c_firsts u_whole)) (wc2 := (w_X8_standOn c_places c_freed c_firstWorth c_seats c_secondWorth c_stand c_weight c_wish c_askers u_above u_below c_full c_firsts u_whole)) (rest := [.long v4]) (rv := [.long r7]) [0, 2, 5, 6, 7, 8, 9] [1000, 1001, 3, 1, 4, 1002, 1003, 1004, 1005, 1006, 1007, 1008, 1009, 1010, 1011] [1, 3, 4] [3, 0, 4, 1, 2, 5, 6, 7, 8, 9] (c_X8_standOn hc8) cw_X8_standOn m_X8_190 dX8_standingAt_103 rfl ⟨leb rfl, leb rfl⟩ ⟨rfl, rfl⟩ rfl ⟨_, rfl, rfl⟩ (Fit.mk rfl rfl rfl) rfl (leb rfl) (ROsub.nil rfl rfl) rfl ?_
      change GG _ _ _ _ _ _ _ _ _ (w_X8_standingAt c_askers c_places c_full c_firsts c_freed c_cost c_firstWorth c_found c_least c_seats c_secondWorth c_stand c_weight c_wish u_above u_below u_whole) [some (.ref 0), none, none, some (.int v3), some (.long v4), none, some (.int v6), some (.int v7), some (.int v8), some (.int v9)] [.long r7, .long v4]
      refine G_lsub dX8_standingAt_106 ?_
      refine G_lstore dX8_standingAt_107 (ltb rfl) ?_
      change GG _ _ _ _ _ _ _ _ _ _ [some (.ref 0), none, none, some (.int v3), some (.long (v4 - r7)), none, some (.int v6), some (.int v7), some (.int v8), some (.int v9)] _
      refine G_iinc 1 dX8_standingAt_109 (by decide) rfl (ltb rfl) ?_
      change GG _ _ _ _ _ _ _ _ _ _ [some (.ref 0), none, none, some (.int v3), some (.long (v4 - r7)), none, some (.int v6), some (.int v7), some (.int (v8 + 1)), some (.int v9)] _
      refine G_goto 74 dX8_standingAt_112 (by decide) ?_
      exact ih hf
def f_X8_standingAt_65 (N : Nat) (c_askers : Int32) (c_places : Int32) (c_wish : Nat → Int32) : Nat → Int32 → Int32 → Int32 → (Nat → Int64) → (Nat → Int32) → (Nat → Int32) → (Nat → Int64) → (Nat → Int32) → (Nat → Int32) → (Nat → Int64) → (Nat → Int32) → Int32 → Int64 → Int32 → Int32 → Int32 → Int32 → Option (Int32 × Int32 × Int32 × Int32 × (Nat → Int64) × (Nat → Int32) × (Nat → Int32) × (Nat → Int64) × (Nat → Int32) × (Nat → Int32) × (Nat → Int64) × (Nat → Int32))
  | 0, _, _, _, _, _, _, _, _, _, _, _, _, _, _, _, _, _ => none
  | n + 1, c_full, c_firsts, c_freed, c_cost, c_firstWorth, c_found, c_least, c_seats, c_secondWorth, c_stand, c_weight, v3, v4, v6, v7, v8, v9 =>
    (if v3 < v9 then
      some (v8 - 1, c_full, c_firsts, c_freed, c_cost, c_firstWorth, c_found, c_least, c_seats, c_secondWorth, c_stand, c_weight)
    else
      f_X8_standingAt_74 N c_askers c_places c_wish (f_X8_standingAt_65 N c_askers c_places c_wish n) N c_full c_firsts c_freed c_cost c_firstWorth c_found c_least c_seats c_secondWorth c_stand c_weight v3 v4 v6 v7 0 v9)
set_option maxHeartbeats 4000000 in
set_option maxRecDepth 100000 in
theorem g_X8_standingAt_65 {κ : KC} {ω : KW} {A : Nat → Prop} {ad : Nat → Nat} {u_above : Int64} {u_below : Int64} {u_whole : Int64} {N : Nat} {c_askers : Int32} {c_places : Int32} {c_wish : Nat → Int32}  {res : Int32 × Int32 × Int32 × Int32 × (Nat → Int64) × (Nat → Int32) × (Nat → Int32) × (Nat → Int64) × (Nat → Int32) × (Nat → Int32) × (Nat → Int64) × (Nat → Int32)} : ∀ (n : Nat) {c_full : Int32} {c_firsts : Int32} {c_freed : Int32} {c_cost : Nat → Int64} {c_firstWorth : Nat → Int32} {c_found : Nat → Int32} {c_least : Nat → Int64} {c_seats : Nat → Int32} {c_secondWorth : Nat → Int32} {c_stand : Nat → Int64} {c_weight : Nat → Int32} {v3 : Int32} {v4 : Int64} {v6 : Int32} {v7 : Int32} {v8 : Int32} {v9 : Int32}, f_X8_standingAt_65 N c_askers c_places c_wish n c_full c_firsts c_freed c_cost c_firstWorth c_found c_least c_seats c_secondWorth c_stand c_weight v3 v4 v6 v7 v8 v9 = some res → GG mu_X8_standingAt κ ω A (QR κ ω A ad (some (.int res.1)) (w_X8_standingAt c_askers c_places res.2.1 res.2.2.1 res.2.2.2.1 res.2.2.2.2.1 res.2.2.2.2.2.1 res.2.2.2.2.2.2.1 res.2.2.2.2.2.2.2.1 res.2.2.2.2.2.2.2.2.1 res.2.2.2.2.2.2.2.2.2.1 res.2.2.2.2.2.2.2.2.2.2.1 res.2.2.2.2.2.2.2.2.2.2.2 c_wish u_above u_below u_whole)) ad 0 0 65 (w_X8_standingAt c_askers c_places c_full c_firsts c_freed c_cost c_firstWorth c_found c_least c_seats c_secondWorth c_stand c_weight c_wish u_above u_below u_whole) [some (.ref 0), none, none, some (.int v3), some (.long v4), none, some (.int v6), some (.int v7), some (.int v8), some (.int v9)] [] := by
  intro n
  induction n with
  | zero => intro c_full c_firsts c_freed c_cost c_firstWorth c_found c_least c_seats c_secondWorth c_stand c_weight v3 v4 v6 v7 v8 v9 hf; exact ob_0 hf
  | succ n ih =>
    intro c_full c_firsts c_freed c_cost c_firstWorth c_found c_least c_seats c_secondWorth c_stand c_weight v3 v4 v6 v7 v8 v9 hf
    refine G_iload dX8_standingAt_65 rfl ?_
    refine G_iload_n dX8_standingAt_67 rfl rfl ?_
    refine G_icmp_gt 154 dX8_standingAt_68 (by decide) (fun h1 => ?_) (fun h1 => ?_)
    · replace hf := ob_t h1 hf
      refine G_iload dX8_standingAt_154 rfl ?_
      refine G_iconst 1 dX8_standingAt_156 (by decide) ?_
      refine G_isub dX8_standingAt_157 ?_
      obtain rfl := os hf
      exact G_ireturn dX8_standingAt_158 rfl
    · replace hf := ob_f h1 hf
      refine G_iconst 0 dX8_standingAt_71 (by decide) ?_
      refine G_istore dX8_standingAt_72 (ltb rfl) ?_
      change GG _ _ _ _ _ _ _ _ _ _ [some (.ref 0), none, none, some (.int v3), some (.long v4), none, some (.int v6), some (.int v7), some (.int 0), some (.int v9)] _
      exact g_X8_standingAt_74 ih N hf
def f_X8_standingAt (N : Nat) (c_askers : Int32) (c_places : Int32) (c_wish : Nat → Int32) (c_full : Int32) (c_firsts : Int32) (c_freed : Int32) (c_cost : Nat → Int64) (c_firstWorth : Nat → Int32) (c_found : Nat → Int32) (c_least : Nat → Int64) (c_seats : Nat → Int32) (c_secondWorth : Nat → Int32) (c_stand : Nat → Int64) (c_weight : Nat → Int32) (a1 : Int64) (a3 : Int32) : Option (Int32 × Int32 × Int32 × Int32 × (Nat → Int64) × (Nat → Int32) × (Nat → Int32) × (Nat → Int64) × (Nat → Int32) × (Nat → Int32) × (Nat → Int64) × (Nat → Int32)) :=
  (f_X8_findStand N c_askers c_places c_wish c_full c_firsts c_freed c_cost c_firstWorth c_found c_least c_seats c_secondWorth c_stand c_weight).bind fun (o1, o2, o3, o4, o5, o6, o7, o8, o9, o10, o11) =>
  (f_X8_isAsker N c_askers a3).bind fun r13 =>
  (if r13 = 0 then
    some ((-2 : Int32), o1, o2, o3, o4, o5, o6, o7, o8, o9, o10, o11)
  else
    (if a1 < 0 then
      some ((-2 : Int32), o1, o2, o3, o4, o5, o6, o7, o8, o9, o10, o11)
    else
      (f_X8_standAt N 0 o2 o1).bind fun r17 =>
      (rdL 331776 o10 r17).bind fun t19 =>
      (if a1 < t19 then
        f_X8_standingAt_65 N c_askers c_places c_wish N o1 o2 o3 o4 o5 o6 o7 o8 o9 o10 o11 a3 a1 o1 o2 0 0
      else
        some ((-2 : Int32), o1, o2, o3, o4, o5, o6, o7, o8, o9, o10, o11))))
set_option maxHeartbeats 4000000 in
set_option maxRecDepth 100000 in
theorem c_X8_standingAt {N : Nat} {c_askers : Int32} {c_places : Int32} {c_wish : Nat → Int32} {c_full : Int32} {c_firsts : Int32} {c_freed : Int32} {c_cost : Nat → Int64} {c_firstWorth : Nat → Int32} {c_found : Nat → Int32} {c_least : Nat → Int64} {c_seats : Nat → Int32} {c_secondWorth : Nat → Int32} {c_stand : Nat → Int64} {c_weight : Nat → Int32} {u_above : Int64} {u_below : Int64} {u_whole : Int64} {a1 : Int64} {a3 : Int32} {res : Int32 × Int32 × Int32 × Int32 × (Nat → Int64) × (Nat → Int32) × (Nat → Int32) × (Nat → Int64) × (Nat → Int32) × (Nat → Int32) × (Nat → Int64) × (Nat → Int32)} (hf : f_X8_standingAt N c_askers c_places c_wish c_full c_firsts c_freed c_cost c_firstWorth c_found c_least c_seats c_secondWorth c_stand c_weight a1 a3 = some res) : Con mu_X8_standingAt [.ref 0, .long a1, .int a3] (w_X8_standingAt c_askers c_places c_full c_firsts c_freed c_cost c_firstWorth c_found c_least c_seats c_secondWorth c_stand c_weight c_wish u_above u_below u_whole) (some (.int res.1)) (w_X8_standingAt c_askers c_places res.2.1 res.2.2.1 res.2.2.2.1 res.2.2.2.2.1 res.2.2.2.2.2.1 res.2.2.2.2.2.2.1 res.2.2.2.2.2.2.2.1 res.2.2.2.2.2.2.2.2.1 res.2.2.2.2.2.2.2.2.2.1 res.2.2.2.2.2.2.2.2.2.2.1 res.2.2.2.2.2.2.2.2.2.2.2 c_wish u_above u_below u_whole) := by
  refine Con.mk (show plainName RX8 = true by decide +kernel) (leb rfl) (fun κ ω A ad => ?_)
  change GG mu_X8_standingAt κ ω A (QR κ ω A ad (some (.int res.1)) (w_X8_standingAt c_askers c_places res.2.1 res.2.2.1 res.2.2.2.1 res.2.2.2.2.1 res.2.2.2.2.2.1 res.2.2.2.2.2.2.1 res.2.2.2.2.2.2.2.1 res.2.2.2.2.2.2.2.2.1 res.2.2.2.2.2.2.2.2.2.1 res.2.2.2.2.2.2.2.2.2.2.1 res.2.2.2.2.2.2.2.2.2.2.2 c_wish u_above u_below u_whole)) ad 0 0 0 (w_X8_standingAt c_askers c_places c_full c_firsts c_freed c_cost c_firstWorth c_found c_least c_seats c_secondWorth c_stand c_weight c_wish u_above u_below u_whole) [some (.ref 0), some (.long a1), none, some (.int a3), none, none, none, none, none, none] []
  refine G_aload_n dX8_standingAt_0 rfl rfl ?_
  obtain ⟨⟨o1, o2, o3, o4, o5, o6, o7, o8, o9, o10, o11⟩, hc12, hf⟩ := ob hf
  refine G_callV (μ2 := mu_X8_findStand) (As := []) (w2 := (w_X8_standingAt c_askers c_places o1 o2 o3 o4 o5 o6 o7 o8 o9 o10 o11 c_wish u_above u_below u_whole)) (wc := (w_X8_findStand c_askers c_places c_full c_firsts c_freed c_cost c_firstWorth c_found c_least c_seats c_secondWorth c_stand c_weight c_wish u_above u_below u_whole)) (wc2 := (w_X8_findStand c_askers c_places o1 o2 o3 o4 o5 o6 o7 o8 o9 o10 o11 c_wish u_above u_below u_whole)) (rest := []) (rv := []) [0, 1, 2, 3, 4, 5, 6, 7, 8, 9] [1000, 1001, 1002, 1003, 1004, 1005, 1006, 1007, 1008, 1009, 1010, 1011] [] [0, 1, 2, 3, 4, 5, 6, 7, 8, 9] (c_X8_findStand hc12) cw_X8_findStand m_X8_197 dX8_standingAt_1 rfl ⟨leb rfl, leb rfl⟩ ⟨rfl, rfl⟩ rfl ⟨_, rfl, rfl⟩ (Fit.mk rfl rfl rfl) rfl (leb rfl) (ROsub.nil rfl rfl) rfl ?_
  change GG _ _ _ _ _ _ _ _ _ (w_X8_standingAt c_askers c_places o1 o2 o3 o4 o5 o6 o7 o8 o9 o10 o11 c_wish u_above u_below u_whole) [some (.ref 0), some (.long a1), none, some (.int a3), none, none, none, none, none, none] []
  refine G_aload_n dX8_standingAt_4 rfl rfl ?_
  refine G_iload_n dX8_standingAt_5 rfl rfl ?_
  obtain ⟨r13, hc14, hf⟩ := ob hf
  refine G_callV (μ2 := mu_X8_isAsker) (As := [.int a3]) (w2 := (w_X8_standingAt c_askers c_places o1 o2 o3 o4 o5 o6 o7 o8 o9 o10 o11 c_wish u_above u_below u_whole)) (wc := (w_X8_isAsker c_askers c_places u_above u_below o1 o2 o3 u_whole)) (wc2 := (w_X8_isAsker c_askers c_places u_above u_below o1 o2 o3 u_whole)) (rest := []) (rv := [.int r13]) [0] [5, 9, 1000, 8, 1001, 3, 1, 4, 1002, 1003, 2, 6, 7, 1004, 1005, 1006, 1007, 1008, 1009, 1010, 1011] [1, 2, 3, 4, 5, 6, 7, 8, 9] [9, 0, 1, 2, 3, 4, 5, 6, 7, 8] (c_X8_isAsker hc14) cw_X8_isAsker m_X8_108 dX8_standingAt_6 rfl ⟨leb rfl, leb rfl⟩ ⟨rfl, rfl⟩ rfl ⟨_, rfl, rfl⟩ (Fit.mk rfl rfl rfl) rfl (leb rfl) (ROsub.nil rfl rfl) rfl ?_
  change GG _ _ _ _ _ _ _ _ _ (w_X8_standingAt c_askers c_places o1 o2 o3 o4 o5 o6 o7 o8 o9 o10 o11 c_wish u_above u_below u_whole) [some (.ref 0), some (.long a1), none, some (.int a3), none, none, none, none, none, none] [.int r13]
  refine G_if_eq 41 dX8_standingAt_9 (by decide) (fun h15 => ?_) (fun h15 => ?_)
  · replace hf := ob_t h15 hf
    refine G_bipush (-2 : Int32) dX8_standingAt_41 (by decide) ?_
    obtain rfl := os hf
    exact G_ireturn dX8_standingAt_43 rfl
  · replace hf := ob_f h15 hf
    refine G_lload_n dX8_standingAt_12 rfl rfl ?_
    refine G_lconst 0 dX8_standingAt_13 (by decide) ?_
    refine G_lcmp_lt 41 dX8_standingAt_14 dX8_standingAt_15 (by decide) (fun h16 => ?_) (fun h16 => ?_)
    · replace hf := ob_t h16 hf
      refine G_bipush (-2 : Int32) dX8_standingAt_41 (by decide) ?_
      obtain rfl := os hf
      exact G_ireturn dX8_standingAt_43 rfl
    · replace hf := ob_f h16 hf
      refine G_lload_n dX8_standingAt_18 rfl rfl ?_
      refine G_aload_n dX8_standingAt_19 rfl rfl ?_
      refine G_get (v := .ref 7) F_X8_49 dX8_standingAt_20 rfl rfl ?_
      refine G_aload_n dX8_standingAt_23 rfl rfl ?_
      refine G_iconst 0 dX8_standingAt_24 (by decide) ?_
      refine G_aload_n dX8_standingAt_25 rfl rfl ?_
      refine G_get (v := .int o2) F_X8_174 dX8_standingAt_26 rfl rfl ?_
      refine G_aload_n dX8_standingAt_29 rfl rfl ?_
      refine G_get (v := .int o1) F_X8_114 dX8_standingAt_30 rfl rfl ?_
      obtain ⟨r17, hc18, hf⟩ := ob hf
      refine G_callV (μ2 := mu_X8_standAt) (As := [.int 0, .int o2, .int o1]) (w2 := (w_X8_standingAt c_askers c_places o1 o2 o3 o4 o5 o6 o7 o8 o9 o10 o11 c_wish u_above u_below u_whole)) (wc := (w_X8_standAt c_askers c_places u_above u_below o1 o2 o3 u_whole)) (wc2 := (w_X8_standAt c_askers c_places u_above u_below o1 o2 o3 u_whole)) (rest := [.ref 7, .long a1]) (rv := [.int r17]) [0] [5, 9, 1000, 8, 1001, 3, 1, 4, 1002, 1003, 2, 6, 7, 1004, 1005, 1006, 1007, 1008, 1009, 1010, 1011] [1, 2, 3, 4, 5, 6, 7, 8, 9] [9, 0, 1, 2, 3, 4, 5, 6, 7, 8] (c_X8_standAt hc18) cw_X8_standAt m_X8_187 dX8_standingAt_33 rfl ⟨leb rfl, leb rfl⟩ ⟨rfl, rfl⟩ rfl ⟨_, rfl, rfl⟩ (Fit.mk rfl rfl rfl) rfl (leb rfl) (ROsub.nil rfl rfl) rfl ?_
      change GG _ _ _ _ _ _ _ _ _ (w_X8_standingAt c_askers c_places o1 o2 o3 o4 o5 o6 o7 o8 o9 o10 o11 c_wish u_above u_below u_whole) [some (.ref 0), some (.long a1), none, some (.int a3), none, none, none, none, none, none] [.int r17, .ref 7, .long a1]
      obtain ⟨t19, ht19, hf⟩ := ob hf
      refine G_lald dX8_standingAt_36 rfl ht19 ?_
      refine G_lcmp_lt 44 dX8_standingAt_37 dX8_standingAt_38 (by decide) (fun h20 => ?_) (fun h20 => ?_)
      · replace hf := ob_t h20 hf
        refine G_lload_n dX8_standingAt_44 rfl rfl ?_
        refine G_lstore dX8_standingAt_45 (ltb rfl) ?_
        change GG _ _ _ _ _ _ _ _ _ _ [some (.ref 0), some (.long a1), none, some (.int a3), some (.long a1), none, none, none, none, none] _
        refine G_aload_n dX8_standingAt_47 rfl rfl ?_
        refine G_get (v := .int o1) F_X8_114 dX8_standingAt_48 rfl rfl ?_
        refine G_istore dX8_standingAt_51 (ltb rfl) ?_
        change GG _ _ _ _ _ _ _ _ _ _ [some (.ref 0), some (.long a1), none, some (.int a3), some (.long a1), none, some (.int o1), none, none, none] _
        refine G_aload_n dX8_standingAt_53 rfl rfl ?_
        refine G_get (v := .int o2) F_X8_174 dX8_standingAt_54 rfl rfl ?_
        refine G_istore dX8_standingAt_57 (ltb rfl) ?_
        change GG _ _ _ _ _ _ _ _ _ _ [some (.ref 0), some (.long a1), none, some (.int a3), some (.long a1), none, some (.int o1), some (.int o2), none, none] _
        refine G_iconst 0 dX8_standingAt_59 (by decide) ?_
        refine G_istore dX8_standingAt_60 (ltb rfl) ?_
        change GG _ _ _ _ _ _ _ _ _ _ [some (.ref 0), some (.long a1), none, some (.int a3), some (.long a1), none, some (.int o1), some (.int o2), some (.int 0), none] _
        refine G_iconst 0 dX8_standingAt_62 (by decide) ?_
        refine G_istore dX8_standingAt_63 (ltb rfl) ?_
        change GG _ _ _ _ _ _ _ _ _ _ [some (.ref 0), some (.long a1), none, some (.int a3), some (.long a1), none, some (.int o1), some (.int o2), some (.int 0), some (.int 0)] _
        refine GG.sb (lv2 := [some (.ref 0), none, none, some (.int a3), some (.long a1), none, some (.int o1), some (.int o2), some (.int 0), some (.int 0)]) ?_ (lvS_v rfl (lvS_n (lvS_n (lvS_v rfl (lvS_v rfl (lvS_n (lvS_v rfl (lvS_v rfl (lvS_v rfl (lvS_v rfl (lvS_e)))))))))))
        exact g_X8_standingAt_65 N hf
      · replace hf := ob_f h20 hf
        refine G_bipush (-2 : Int32) dX8_standingAt_41 (by decide) ?_
        obtain rfl := os hf
        exact G_ireturn dX8_standingAt_43 rfl
set_option maxRecDepth 20000 in
theorem dX8_standingMany_0 : decode cX8_standingMany 0 = .ok (.iload_n 1, 1) := by decide +kernel
set_option maxRecDepth 20000 in
theorem dX8_standingMany_1 : decode cX8_standingMany 1 = .ok (.iconst 0, 1) := by decide +kernel
set_option maxRecDepth 20000 in
theorem dX8_standingMany_2 : decode cX8_standingMany 2 = .ok (.iconst 1, 1) := by decide +kernel
set_option maxRecDepth 20000 in
theorem dX8_standingMany_3 : decode cX8_standingMany 3 = .ok (.invokestatic 93, 3) := by decide +kernel
set_option maxRecDepth 20000 in
theorem dX8_standingMany_6 : decode cX8_standingMany 6 = .ok (.ifCond .ne 6, 3) := by decide +kernel
set_option maxRecDepth 20000 in
theorem dX8_standingMany_9 : decode cX8_standingMany 9 = .ok (.bipush (-2), 2) := by decide +kernel
set_option maxRecDepth 20000 in
theorem dX8_standingMany_11 : decode cX8_standingMany 11 = .ok (.ireturn, 1) := by decide +kernel
set_option maxRecDepth 20000 in
theorem dX8_standingMany_12 : decode cX8_standingMany 12 = .ok (.aload_n 0, 1) := by decide +kernel
set_option maxRecDepth 20000 in
theorem dX8_standingMany_13 : decode cX8_standingMany 13 = .ok (.invokevirtual 197, 3) := by decide +kernel
set_option maxRecDepth 20000 in
theorem dX8_standingMany_16 : decode cX8_standingMany 16 = .ok (.aload_n 0, 1) := by decide +kernel
set_option maxRecDepth 20000 in
theorem dX8_standingMany_17 : decode cX8_standingMany 17 = .ok (.getfield 49, 3) := by decide +kernel
set_option maxRecDepth 20000 in
theorem dX8_standingMany_20 : decode cX8_standingMany 20 = .ok (.aload_n 0, 1) := by decide +kernel
set_option maxRecDepth 20000 in
theorem dX8_standingMany_21 : decode cX8_standingMany 21 = .ok (.iconst 0, 1) := by decide +kernel
set_option maxRecDepth 20000 in
theorem dX8_standingMany_22 : decode cX8_standingMany 22 = .ok (.aload_n 0, 1) := by decide +kernel
set_option maxRecDepth 20000 in
theorem dX8_standingMany_23 : decode cX8_standingMany 23 = .ok (.getfield 174, 3) := by decide +kernel
set_option maxRecDepth 20000 in
theorem dX8_standingMany_26 : decode cX8_standingMany 26 = .ok (.aload_n 0, 1) := by decide +kernel
set_option maxRecDepth 20000 in
theorem dX8_standingMany_27 : decode cX8_standingMany 27 = .ok (.getfield 114, 3) := by decide +kernel
set_option maxRecDepth 20000 in
theorem dX8_standingMany_30 : decode cX8_standingMany 30 = .ok (.invokevirtual 187, 3) := by decide +kernel
set_option maxRecDepth 20000 in
theorem dX8_standingMany_33 : decode cX8_standingMany 33 = .ok (.laload, 1) := by decide +kernel
set_option maxRecDepth 20000 in
theorem dX8_standingMany_34 : decode cX8_standingMany 34 = .ok (.lconst 0, 1) := by decide +kernel
set_option maxRecDepth 20000 in
theorem dX8_standingMany_35 : decode cX8_standingMany 35 = .ok (.lcmp, 1) := by decide +kernel
set_option maxRecDepth 20000 in
theorem dX8_standingMany_36 : decode cX8_standingMany 36 = .ok (.ifCond .ne 5, 3) := by decide +kernel
set_option maxRecDepth 20000 in
theorem dX8_standingMany_39 : decode cX8_standingMany 39 = .ok (.iconst (-1), 1) := by decide +kernel
set_option maxRecDepth 20000 in
theorem dX8_standingMany_40 : decode cX8_standingMany 40 = .ok (.ireturn, 1) := by decide +kernel
set_option maxRecDepth 20000 in
theorem dX8_standingMany_41 : decode cX8_standingMany 41 = .ok (.iconst 0, 1) := by decide +kernel
set_option maxRecDepth 20000 in
theorem dX8_standingMany_42 : decode cX8_standingMany 42 = .ok (.istore_n 2, 1) := by decide +kernel
set_option maxRecDepth 20000 in
theorem dX8_standingMany_43 : decode cX8_standingMany 43 = .ok (.iload_n 2, 1) := by decide +kernel
set_option maxRecDepth 20000 in
theorem dX8_standingMany_44 : decode cX8_standingMany 44 = .ok (.aload_n 0, 1) := by decide +kernel
set_option maxRecDepth 20000 in
theorem dX8_standingMany_45 : decode cX8_standingMany 45 = .ok (.getfield 89, 3) := by decide +kernel
set_option maxRecDepth 20000 in
theorem dX8_standingMany_48 : decode cX8_standingMany 48 = .ok (.if_icmp .ge 102, 3) := by decide +kernel
set_option maxRecDepth 20000 in
theorem dX8_standingMany_51 : decode cX8_standingMany 51 = .ok (.iconst 0, 1) := by decide +kernel
set_option maxRecDepth 20000 in
theorem dX8_standingMany_52 : decode cX8_standingMany 52 = .ok (.istore_n 3, 1) := by decide +kernel
set_option maxRecDepth 20000 in
theorem dX8_standingMany_53 : decode cX8_standingMany 53 = .ok (.iload_n 3, 1) := by decide +kernel
set_option maxRecDepth 20000 in
theorem dX8_standingMany_54 : decode cX8_standingMany 54 = .ok (.aload_n 0, 1) := by decide +kernel
set_option maxRecDepth 20000 in
theorem dX8_standingMany_55 : decode cX8_standingMany 55 = .ok (.getfield 97, 3) := by decide +kernel
set_option maxRecDepth 20000 in
theorem dX8_standingMany_58 : decode cX8_standingMany 58 = .ok (.if_icmp .gt 86, 3) := by decide +kernel
set_option maxRecDepth 20000 in
theorem dX8_standingMany_61 : decode cX8_standingMany 61 = .ok (.iload_n 3, 1) := by decide +kernel
set_option maxRecDepth 20000 in
theorem dX8_standingMany_62 : decode cX8_standingMany 62 = .ok (.ifCond .ne 7, 3) := by decide +kernel
set_option maxRecDepth 20000 in
theorem dX8_standingMany_65 : decode cX8_standingMany 65 = .ok (.lconst 0, 1) := by decide +kernel
set_option maxRecDepth 20000 in
theorem dX8_standingMany_66 : decode cX8_standingMany 66 = .ok (.goto 14, 3) := by decide +kernel
set_option maxRecDepth 20000 in
theorem dX8_standingMany_69 : decode cX8_standingMany 69 = .ok (.iload_n 1, 1) := by decide +kernel
set_option maxRecDepth 20000 in
theorem dX8_standingMany_70 : decode cX8_standingMany 70 = .ok (.ifCond .ne 9, 3) := by decide +kernel
set_option maxRecDepth 20000 in
theorem dX8_standingMany_73 : decode cX8_standingMany 73 = .ok (.ldc2_w 148, 3) := by decide +kernel
set_option maxRecDepth 20000 in
theorem dX8_standingMany_76 : decode cX8_standingMany 76 = .ok (.goto 4, 3) := by decide +kernel
set_option maxRecDepth 20000 in
theorem dX8_standingMany_79 : decode cX8_standingMany 79 = .ok (.lconst 1, 1) := by decide +kernel
set_option maxRecDepth 20000 in
theorem dX8_standingMany_80 : decode cX8_standingMany 80 = .ok (.lstore 4, 2) := by decide +kernel
set_option maxRecDepth 20000 in
theorem dX8_standingMany_82 : decode cX8_standingMany 82 = .ok (.aload_n 0, 1) := by decide +kernel
set_option maxRecDepth 20000 in
theorem dX8_standingMany_83 : decode cX8_standingMany 83 = .ok (.getfield 30, 3) := by decide +kernel
set_option maxRecDepth 20000 in
theorem dX8_standingMany_86 : decode cX8_standingMany 86 = .ok (.bipush 7, 2) := by decide +kernel
set_option maxRecDepth 20000 in
theorem dX8_standingMany_88 : decode cX8_standingMany 88 = .ok (.iload_n 2, 1) := by decide +kernel
set_option maxRecDepth 20000 in
theorem dX8_standingMany_89 : decode cX8_standingMany 89 = .ok (.imul, 1) := by decide +kernel
set_option maxRecDepth 20000 in
theorem dX8_standingMany_90 : decode cX8_standingMany 90 = .ok (.iload_n 3, 1) := by decide +kernel
set_option maxRecDepth 20000 in
theorem dX8_standingMany_91 : decode cX8_standingMany 91 = .ok (.iadd, 1) := by decide +kernel
set_option maxRecDepth 20000 in
theorem dX8_standingMany_92 : decode cX8_standingMany 92 = .ok (.aload_n 0, 1) := by decide +kernel
set_option maxRecDepth 20000 in
theorem dX8_standingMany_93 : decode cX8_standingMany 93 = .ok (.iload_n 2, 1) := by decide +kernel
set_option maxRecDepth 20000 in
theorem dX8_standingMany_94 : decode cX8_standingMany 94 = .ok (.iload_n 3, 1) := by decide +kernel
set_option maxRecDepth 20000 in
theorem dX8_standingMany_95 : decode cX8_standingMany 95 = .ok (.invokevirtual 111, 3) := by decide +kernel
set_option maxRecDepth 20000 in
theorem dX8_standingMany_98 : decode cX8_standingMany 98 = .ok (.bipush 7, 2) := by decide +kernel
set_option maxRecDepth 20000 in
theorem dX8_standingMany_100 : decode cX8_standingMany 100 = .ok (.if_icmp .gt 12, 3) := by decide +kernel
set_option maxRecDepth 20000 in
theorem dX8_standingMany_103 : decode cX8_standingMany 103 = .ok (.aload_n 0, 1) := by decide +kernel
set_option maxRecDepth 20000 in
theorem dX8_standingMany_104 : decode cX8_standingMany 104 = .ok (.iload_n 2, 1) := by decide +kernel
set_option maxRecDepth 20000 in
theorem dX8_standingMany_105 : decode cX8_standingMany 105 = .ok (.iload_n 3, 1) := by decide +kernel
set_option maxRecDepth 20000 in
theorem dX8_standingMany_106 : decode cX8_standingMany 106 = .ok (.invokevirtual 194, 3) := by decide +kernel
set_option maxRecDepth 20000 in
theorem dX8_standingMany_109 : decode cX8_standingMany 109 = .ok (.ifCond .ne 9, 3) := by decide +kernel
set_option maxRecDepth 20000 in
theorem dX8_standingMany_112 : decode cX8_standingMany 112 = .ok (.ldc2_w 130, 3) := by decide +kernel
set_option maxRecDepth 20000 in
theorem dX8_standingMany_115 : decode cX8_standingMany 115 = .ok (.goto 22, 3) := by decide +kernel
set_option maxRecDepth 20000 in
theorem dX8_standingMany_118 : decode cX8_standingMany 118 = .ok (.lload 4, 2) := by decide +kernel
set_option maxRecDepth 20000 in
theorem dX8_standingMany_120 : decode cX8_standingMany 120 = .ok (.aload_n 0, 1) := by decide +kernel
set_option maxRecDepth 20000 in
theorem dX8_standingMany_121 : decode cX8_standingMany 121 = .ok (.iload_n 2, 1) := by decide +kernel
set_option maxRecDepth 20000 in
theorem dX8_standingMany_122 : decode cX8_standingMany 122 = .ok (.iload_n 3, 1) := by decide +kernel
set_option maxRecDepth 20000 in
theorem dX8_standingMany_123 : decode cX8_standingMany 123 = .ok (.invokevirtual 180, 3) := by decide +kernel
set_option maxRecDepth 20000 in
theorem dX8_standingMany_126 : decode cX8_standingMany 126 = .ok (.ifCond .eq 9, 3) := by decide +kernel
set_option maxRecDepth 20000 in
theorem dX8_standingMany_129 : decode cX8_standingMany 129 = .ok (.ldc2_w 200, 3) := by decide +kernel
set_option maxRecDepth 20000 in
theorem dX8_standingMany_132 : decode cX8_standingMany 132 = .ok (.goto 4, 3) := by decide +kernel
set_option maxRecDepth 20000 in
theorem dX8_standingMany_135 : decode cX8_standingMany 135 = .ok (.lconst 0, 1) := by decide +kernel
set_option maxRecDepth 20000 in
theorem dX8_standingMany_136 : decode cX8_standingMany 136 = .ok (.lsub, 1) := by decide +kernel
set_option maxRecDepth 20000 in
theorem dX8_standingMany_137 : decode cX8_standingMany 137 = .ok (.lastore, 1) := by decide +kernel
set_option maxRecDepth 20000 in
theorem dX8_standingMany_138 : decode cX8_standingMany 138 = .ok (.iinc 3 1, 3) := by decide +kernel
set_option maxRecDepth 20000 in
theorem dX8_standingMany_141 : decode cX8_standingMany 141 = .ok (.goto (-88), 3) := by decide +kernel
set_option maxRecDepth 20000 in
theorem dX8_standingMany_144 : decode cX8_standingMany 144 = .ok (.iinc 2 1, 3) := by decide +kernel
set_option maxRecDepth 20000 in
theorem dX8_standingMany_147 : decode cX8_standingMany 147 = .ok (.goto (-104), 3) := by decide +kernel
set_option maxRecDepth 20000 in
theorem dX8_standingMany_150 : decode cX8_standingMany 150 = .ok (.aload_n 0, 1) := by decide +kernel
set_option maxRecDepth 20000 in
theorem dX8_standingMany_151 : decode cX8_standingMany 151 = .ok (.invokevirtual 144, 3) := by decide +kernel
set_option maxRecDepth 20000 in
theorem dX8_standingMany_154 : decode cX8_standingMany 154 = .ok (.ldc2_w 200, 3) := by decide +kernel
set_option maxRecDepth 20000 in
theorem dX8_standingMany_157 : decode cX8_standingMany 157 = .ok (.aload_n 0, 1) := by decide +kernel
set_option maxRecDepth 20000 in
theorem dX8_standingMany_158 : decode cX8_standingMany 158 = .ok (.getfield 174, 3) := by decide +kernel
set_option maxRecDepth 20000 in
theorem dX8_standingMany_161 : decode cX8_standingMany 161 = .ok (.i2l, 1) := by decide +kernel
set_option maxRecDepth 20000 in
theorem dX8_standingMany_162 : decode cX8_standingMany 162 = .ok (.lmul, 1) := by decide +kernel
set_option maxRecDepth 20000 in
theorem dX8_standingMany_163 : decode cX8_standingMany 163 = .ok (.ladd, 1) := by decide +kernel
set_option maxRecDepth 20000 in
theorem dX8_standingMany_164 : decode cX8_standingMany 164 = .ok (.lstore_n 2, 1) := by decide +kernel
set_option maxRecDepth 20000 in
theorem dX8_standingMany_165 : decode cX8_standingMany 165 = .ok (.iload_n 1, 1) := by decide +kernel
set_option maxRecDepth 20000 in
theorem dX8_standingMany_166 : decode cX8_standingMany 166 = .ok (.ifCond .ne 8, 3) := by decide +kernel
set_option maxRecDepth 20000 in
theorem dX8_standingMany_169 : decode cX8_standingMany 169 = .ok (.lload_n 2, 1) := by decide +kernel
set_option maxRecDepth 20000 in
theorem dX8_standingMany_170 : decode cX8_standingMany 170 = .ok (.lneg, 1) := by decide +kernel
set_option maxRecDepth 20000 in
theorem dX8_standingMany_171 : decode cX8_standingMany 171 = .ok (.goto 4, 3) := by decide +kernel
set_option maxRecDepth 20000 in
theorem dX8_standingMany_174 : decode cX8_standingMany 174 = .ok (.lload_n 2, 1) := by decide +kernel
set_option maxRecDepth 20000 in
theorem dX8_standingMany_175 : decode cX8_standingMany 175 = .ok (.l2i, 1) := by decide +kernel
set_option maxRecDepth 20000 in
theorem dX8_standingMany_176 : decode cX8_standingMany 176 = .ok (.ireturn, 1) := by decide +kernel
def f_X8_standingMany_175 (N : Nat) (c_askers : Int32) (c_places : Int32) (c_wish : Nat → Int32) (c_full : Int32) (c_firsts : Int32) (c_freed : Int32) (c_cost : Nat → Int64) (c_firstWorth : Nat → Int32) (c_found : Nat → Int32) (c_least : Nat → Int64) (c_seats : Nat → Int32) (c_secondWorth : Nat → Int32) (c_stand : Nat → Int64) (c_weight : Nat → Int32) (s0 : Int64) : Option (Int32 × Int32 × Int32 × Int32 × (Nat → Int64) × (Nat → Int32) × (Nat → Int32) × (Nat → Int64) × (Nat → Int32) × (Nat → Int32) × (Nat → Int64) × (Nat → Int32)) :=
    some (s0.toInt32, c_full, c_firsts, c_freed, c_cost, c_firstWorth, c_found, c_least, c_seats, c_secondWorth, c_stand, c_weight)
set_option maxHeartbeats 4000000 in
set_option maxRecDepth 100000 in
theorem g_X8_standingMany_175 {κ : KC} {ω : KW} {A : Nat → Prop} {ad : Nat → Nat} {u_above : Int64} {u_below : Int64} {u_whole : Int64} {N : Nat} {c_askers : Int32} {c_places : Int32} {c_wish : Nat → Int32}  {res : Int32 × Int32 × Int32 × Int32 × (Nat → Int64) × (Nat → Int32) × (Nat → Int32) × (Nat → Int64) × (Nat → Int32) × (Nat → Int32) × (Nat → Int64) × (Nat → Int32)} {c_full : Int32} {c_firsts : Int32} {c_freed : Int32} {c_cost : Nat → Int64} {c_firstWorth : Nat → Int32} {c_found : Nat → Int32} {c_least : Nat → Int64} {c_seats : Nat → Int32} {c_secondWorth : Nat → Int32} {c_stand : Nat → Int64} {c_weight : Nat → Int32} {s0 : Int64} (hf : f_X8_standingMany_175 N c_askers c_places c_wish c_full c_firsts c_freed c_cost c_firstWorth c_found c_least c_seats c_secondWorth c_stand c_weight s0 = some res) : GG mu_X8_standingMany κ ω A (QR κ ω A ad (some (.int res.1)) (w_X8_standingMany c_askers c_places res.2.1 res.2.2.1 res.2.2.2.1 res.2.2.2.2.1 res.2.2.2.2.2.1 res.2.2.2.2.2.2.1 res.2.2.2.2.2.2.2.1 res.2.2.2.2.2.2.2.2.1 res.2.2.2.2.2.2.2.2.2.1 res.2.2.2.2.2.2.2.2.2.2.1 res.2.2.2.2.2.2.2.2.2.2.2 c_wish u_above u_below u_whole)) ad 0 0 175 (w_X8_standingMany c_askers c_places c_full c_firsts c_freed c_cost c_firstWorth c_found c_least c_seats c_secondWorth c_stand c_weight c_wish u_above u_below u_whole) [none, none, none, none, none, none] [.long s0] := by
  refine G_l2i dX8_standingMany_175 ?_
  obtain rfl := os hf
  exact G_ireturn dX8_standingMany_176 rfl
def f_X8_standingMany_137 (N : Nat) (c_askers : Int32) (c_places : Int32) (c_wish : Nat → Int32) (k53 : Int32 → Int32 → Int32 → (Nat → Int64) → (Nat → Int32) → (Nat → Int32) → (Nat → Int64) → (Nat → Int32) → (Nat → Int32) → (Nat → Int64) → (Nat → Int32) → Int32 → Int32 → Int32 → Option (Int32 × Int32 × Int32 × Int32 × (Nat → Int64) × (Nat → Int32) × (Nat → Int32) × (Nat → Int64) × (Nat → Int32) × (Nat → Int32) × (Nat → Int64) × (Nat → Int32))) (c_full : Int32) (c_firsts : Int32) (c_freed : Int32) (c_cost : Nat → Int64) (c_firstWorth : Nat → Int32) (c_found : Nat → Int32) (c_least : Nat → Int64) (c_seats : Nat → Int32) (c_secondWorth : Nat → Int32) (c_stand : Nat → Int64) (c_weight : Nat → Int32) (v1 : Int32) (v2 : Int32) (v3 : Int32) (s1 : Int32) (s2 : Int64) : Option (Int32 × Int32 × Int32 × Int32 × (Nat → Int64) × (Nat → Int32) × (Nat → Int32) × (Nat → Int64) × (Nat → Int32) × (Nat → Int32) × (Nat → Int64) × (Nat → Int32)) :=
    (wrL 56 c_cost s1 s2).bind fun t1 =>
    k53 c_full c_firsts c_freed t1 c_firstWorth c_found c_least c_seats c_secondWorth c_stand c_weight v1 v2 (v3 + 1)
set_option maxHeartbeats 4000000 in
set_option maxRecDepth 100000 in
theorem g_X8_standingMany_137 {κ : KC} {ω : KW} {A : Nat → Prop} {ad : Nat → Nat} {u_above : Int64} {u_below : Int64} {u_whole : Int64} {N : Nat} {c_askers : Int32} {c_places : Int32} {c_wish : Nat → Int32}  {k53 : Int32 → Int32 → Int32 → (Nat → Int64) → (Nat → Int32) → (Nat → Int32) → (Nat → Int64) → (Nat → Int32) → (Nat → Int32) → (Nat → Int64) → (Nat → Int32) → Int32 → Int32 → Int32 → Option (Int32 × Int32 × Int32 × Int32 × (Nat → Int64) × (Nat → Int32) × (Nat → Int32) × (Nat → Int64) × (Nat → Int32) × (Nat → Int32) × (Nat → Int64) × (Nat → Int32))} {res : Int32 × Int32 × Int32 × Int32 × (Nat → Int64) × (Nat → Int32) × (Nat → Int32) × (Nat → Int64) × (Nat → Int32) × (Nat → Int32) × (Nat → Int64) × (Nat → Int32)} (hk53 : ∀ {c_full : Int32} {c_firsts : Int32} {c_freed : Int32} {c_cost : Nat → Int64} {c_firstWorth : Nat → Int32} {c_found : Nat → Int32} {c_least : Nat → Int64} {c_seats : Nat → Int32} {c_secondWorth : Nat → Int32} {c_stand : Nat → Int64} {c_weight : Nat → Int32} {v1 : Int32} {v2 : Int32} {v3 : Int32}, k53 c_full c_firsts c_freed c_cost c_firstWorth c_found c_least c_seats c_secondWorth c_stand c_weight v1 v2 v3 = some res → GG mu_X8_standingMany κ ω A (QR κ ω A ad (some (.int res.1)) (w_X8_standingMany c_askers c_places res.2.1 res.2.2.1 res.2.2.2.1 res.2.2.2.2.1 res.2.2.2.2.2.1 res.2.2.2.2.2.2.1 res.2.2.2.2.2.2.2.1 res.2.2.2.2.2.2.2.2.1 res.2.2.2.2.2.2.2.2.2.1 res.2.2.2.2.2.2.2.2.2.2.1 res.2.2.2.2.2.2.2.2.2.2.2 c_wish u_above u_below u_whole)) ad 0 0 53 (w_X8_standingMany c_askers c_places c_full c_firsts c_freed c_cost c_firstWorth c_found c_least c_seats c_secondWorth c_stand c_weight c_wish u_above u_below u_whole) [some (.ref 0), some (.int v1), some (.int v2), some (.int v3), none, none] []) {c_full : Int32} {c_firsts : Int32} {c_freed : Int32} {c_cost : Nat → Int64} {c_firstWorth : Nat → Int32} {c_found : Nat → Int32} {c_least : Nat → Int64} {c_seats : Nat → Int32} {c_secondWorth : Nat → Int32} {c_stand : Nat → Int64} {c_weight : Nat → Int32} {v1 : Int32} {v2 : Int32} {v3 : Int32} {s1 : Int32} {s2 : Int64} (hf : f_X8_standingMany_137 N c_askers c_places c_wish k53 c_full c_firsts c_freed c_cost c_firstWorth c_found c_least c_seats c_secondWorth c_stand c_weight v1 v2 v3 s1 s2 = some res) : GG mu_X8_standingMany κ ω A (QR κ ω A ad (some (.int res.1)) (w_X8_standingMany c_askers c_places res.2.1 res.2.2.1 res.2.2.2.1 res.2.2.2.2.1 res.2.2.2.2.2.1 res.2.2.2.2.2.2.1 res.2.2.2.2.2.2.2.1 res.2.2.2.2.2.2.2.2.1 res.2.2.2.2.2.2.2.2.2.1 res.2.2.2.2.2.2.2.2.2.2.1 res.2.2.2.2.2.2.2.2.2.2.2 c_wish u_above u_below u_whole)) ad 0 0 137 (w_X8_standingMany c_askers c_places c_full c_firsts c_freed c_cost c_firstWorth c_found c_least c_seats c_secondWorth c_stand c_weight c_wish u_above u_below u_whole) [some (.ref 0), some (.int v1), some (.int v2), some (.int v3), none, none] [.long s2, .int s1, .ref 1] := by
  obtain ⟨t1, ht1, hf⟩ := ob hf
  refine G_last (w2 := (w_X8_standingMany c_askers c_places c_full c_firsts c_freed t1 c_firstWorth c_found c_least c_seats c_secondWorth c_stand c_weight c_wish u_above u_below u_whole)) dX8_standingMany_137 rfl ht1 rfl ?_
  refine G_iinc 1 dX8_standingMany_138 (by decide) rfl (ltb rfl) ?_
  change GG _ _ _ _ _ _ _ _ _ _ [some (.ref 0), some (.int v1), some (.int v2), some (.int (v3 + 1)), none, none] _
  refine G_goto 53 dX8_standingMany_141 (by decide) ?_
  exact hk53 hf
def f_X8_standingMany_136 (N : Nat) (c_askers : Int32) (c_places : Int32) (c_wish : Nat → Int32) (k53 : Int32 → Int32 → Int32 → (Nat → Int64) → (Nat → Int32) → (Nat → Int32) → (Nat → Int64) → (Nat → Int32) → (Nat → Int32) → (Nat → Int64) → (Nat → Int32) → Int32 → Int32 → Int32 → Option (Int32 × Int32 × Int32 × Int32 × (Nat → Int64) × (Nat → Int32) × (Nat → Int32) × (Nat → Int64) × (Nat → Int32) × (Nat → Int32) × (Nat → Int64) × (Nat → Int32))) (c_full : Int32) (c_firsts : Int32) (c_freed : Int32) (c_cost : Nat → Int64) (c_firstWorth : Nat → Int32) (c_found : Nat → Int32) (c_least : Nat → Int64) (c_seats : Nat → Int32) (c_secondWorth : Nat → Int32) (c_stand : Nat → Int64) (c_weight : Nat → Int32) (v1 : Int32) (v2 : Int32) (v3 : Int32) (s1 : Int32) (s2 : Int64) (s3 : Int64) : Option (Int32 × Int32 × Int32 × Int32 × (Nat → Int64) × (Nat → Int32) × (Nat → Int32) × (Nat → Int64) × (Nat → Int32) × (Nat → Int32) × (Nat → Int64) × (Nat → Int32)) :=
    f_X8_standingMany_137 N c_askers c_places c_wish k53 c_full c_firsts c_freed c_cost c_firstWorth c_found c_least c_seats c_secondWorth c_stand c_weight v1 v2 v3 s1 (s2 - s3)
set_option maxHeartbeats 4000000 in
set_option maxRecDepth 100000 in
theorem g_X8_standingMany_136 {κ : KC} {ω : KW} {A : Nat → Prop} {ad : Nat → Nat} {u_above : Int64} {u_below : Int64} {u_whole : Int64} {N : Nat} {c_askers : Int32} {c_places : Int32} {c_wish : Nat → Int32}  {k53 : Int32 → Int32 → Int32 → (Nat → Int64) → (Nat → Int32) → (Nat → Int32) → (Nat → Int64) → (Nat → Int32) → (Nat → Int32) → (Nat → Int64) → (Nat → Int32) → Int32 → Int32 → Int32 → Option (Int32 × Int32 × Int32 × Int32 × (Nat → Int64) × (Nat → Int32) × (Nat → Int32) × (Nat → Int64) × (Nat → Int32) × (Nat → Int32) × (Nat → Int64) × (Nat → Int32))} {res : Int32 × Int32 × Int32 × Int32 × (Nat → Int64) × (Nat → Int32) × (Nat → Int32) × (Nat → Int64) × (Nat → Int32) × (Nat → Int32) × (Nat → Int64) × (Nat → Int32)} (hk53 : ∀ {c_full : Int32} {c_firsts : Int32} {c_freed : Int32} {c_cost : Nat → Int64} {c_firstWorth : Nat → Int32} {c_found : Nat → Int32} {c_least : Nat → Int64} {c_seats : Nat → Int32} {c_secondWorth : Nat → Int32} {c_stand : Nat → Int64} {c_weight : Nat → Int32} {v1 : Int32} {v2 : Int32} {v3 : Int32}, k53 c_full c_firsts c_freed c_cost c_firstWorth c_found c_least c_seats c_secondWorth c_stand c_weight v1 v2 v3 = some res → GG mu_X8_standingMany κ ω A (QR κ ω A ad (some (.int res.1)) (w_X8_standingMany c_askers c_places res.2.1 res.2.2.1 res.2.2.2.1 res.2.2.2.2.1 res.2.2.2.2.2.1 res.2.2.2.2.2.2.1 res.2.2.2.2.2.2.2.1 res.2.2.2.2.2.2.2.2.1 res.2.2.2.2.2.2.2.2.2.1 res.2.2.2.2.2.2.2.2.2.2.1 res.2.2.2.2.2.2.2.2.2.2.2 c_wish u_above u_below u_whole)) ad 0 0 53 (w_X8_standingMany c_askers c_places c_full c_firsts c_freed c_cost c_firstWorth c_found c_least c_seats c_secondWorth c_stand c_weight c_wish u_above u_below u_whole) [some (.ref 0), some (.int v1), some (.int v2), some (.int v3), none, none] []) {c_full : Int32} {c_firsts : Int32} {c_freed : Int32} {c_cost : Nat → Int64} {c_firstWorth : Nat → Int32} {c_found : Nat → Int32} {c_least : Nat → Int64} {c_seats : Nat → Int32} {c_secondWorth : Nat → Int32} {c_stand : Nat → Int64} {c_weight : Nat → Int32} {v1 : Int32} {v2 : Int32} {v3 : Int32} {s1 : Int32} {s2 : Int64} {s3 : Int64} (hf : f_X8_standingMany_136 N c_askers c_places c_wish k53 c_full c_firsts c_freed c_cost c_firstWorth c_found c_least c_seats c_secondWorth c_stand c_weight v1 v2 v3 s1 s2 s3 = some res) : GG mu_X8_standingMany κ ω A (QR κ ω A ad (some (.int res.1)) (w_X8_standingMany c_askers c_places res.2.1 res.2.2.1 res.2.2.2.1 res.2.2.2.2.1 res.2.2.2.2.2.1 res.2.2.2.2.2.2.1 res.2.2.2.2.2.2.2.1 res.2.2.2.2.2.2.2.2.1 res.2.2.2.2.2.2.2.2.2.1 res.2.2.2.2.2.2.2.2.2.2.1 res.2.2.2.2.2.2.2.2.2.2.2 c_wish u_above u_below u_whole)) ad 0 0 136 (w_X8_standingMany c_askers c_places c_full c_firsts c_freed c_cost c_firstWorth c_found c_least c_seats c_secondWorth c_stand c_weight c_wish u_above u_below u_whole) [some (.ref 0), some (.int v1), some (.int v2), some (.int v3), none, none] [.long s3, .long s2, .int s1, .ref 1] := by
  refine G_lsub dX8_standingMany_136 ?_
  exact g_X8_standingMany_137 hk53 hf
def f_X8_standingMany_112 (N : Nat) (c_askers : Int32) (c_places : Int32) (c_wish : Nat → Int32) (k53 : Int32 → Int32 → Int32 → (Nat → Int64) → (Nat → Int32) → (Nat → Int32) → (Nat → Int64) → (Nat → Int32) → (Nat → Int32) → (Nat → Int64) → (Nat → Int32) → Int32 → Int32 → Int32 → Option (Int32 × Int32 × Int32 × Int32 × (Nat → Int64) × (Nat → Int32) × (Nat → Int32) × (Nat → Int64) × (Nat → Int32) × (Nat → Int32) × (Nat → Int64) × (Nat → Int32))) (c_full : Int32) (c_firsts : Int32) (c_freed : Int32) (c_cost : Nat → Int64) (c_firstWorth : Nat → Int32) (c_found : Nat → Int32) (c_least : Nat → Int64) (c_seats : Nat → Int32) (c_secondWorth : Nat → Int32) (c_stand : Nat → Int64) (c_weight : Nat → Int32) (v1 : Int32) (v2 : Int32) (v3 : Int32) (s1 : Int32) : Option (Int32 × Int32 × Int32 × Int32 × (Nat → Int64) × (Nat → Int32) × (Nat → Int32) × (Nat → Int64) × (Nat → Int32) × (Nat → Int32) × (Nat → Int64) × (Nat → Int32)) :=
    f_X8_standingMany_137 N c_askers c_places c_wish k53 c_full c_firsts c_freed c_cost c_firstWorth c_found c_least c_seats c_secondWorth c_stand c_weight v1 v2 v3 s1 1000000000000000000
set_option maxHeartbeats 4000000 in
set_option maxRecDepth 100000 in
theorem g_X8_standingMany_112 {κ : KC} {ω : KW} {A : Nat → Prop} {ad : Nat → Nat} {u_above : Int64} {u_below : Int64} {u_whole : Int64} {N : Nat} {c_askers : Int32} {c_places : Int32} {c_wish : Nat → Int32}  {k53 : Int32 → Int32 → Int32 → (Nat → Int64) → (Nat → Int32) → (Nat → Int32) → (Nat → Int64) → (Nat → Int32) → (Nat → Int32) → (Nat → Int64) → (Nat → Int32) → Int32 → Int32 → Int32 → Option (Int32 × Int32 × Int32 × Int32 × (Nat → Int64) × (Nat → Int32) × (Nat → Int32) × (Nat → Int64) × (Nat → Int32) × (Nat → Int32) × (Nat → Int64) × (Nat → Int32))} {res : Int32 × Int32 × Int32 × Int32 × (Nat → Int64) × (Nat → Int32) × (Nat → Int32) × (Nat → Int64) × (Nat → Int32) × (Nat → Int32) × (Nat → Int64) × (Nat → Int32)} (hk53 : ∀ {c_full : Int32} {c_firsts : Int32} {c_freed : Int32} {c_cost : Nat → Int64} {c_firstWorth : Nat → Int32} {c_found : Nat → Int32} {c_least : Nat → Int64} {c_seats : Nat → Int32} {c_secondWorth : Nat → Int32} {c_stand : Nat → Int64} {c_weight : Nat → Int32} {v1 : Int32} {v2 : Int32} {v3 : Int32}, k53 c_full c_firsts c_freed c_cost c_firstWorth c_found c_least c_seats c_secondWorth c_stand c_weight v1 v2 v3 = some res → GG mu_X8_standingMany κ ω A (QR κ ω A ad (some (.int res.1)) (w_X8_standingMany c_askers c_places res.2.1 res.2.2.1 res.2.2.2.1 res.2.2.2.2.1 res.2.2.2.2.2.1 res.2.2.2.2.2.2.1 res.2.2.2.2.2.2.2.1 res.2.2.2.2.2.2.2.2.1 res.2.2.2.2.2.2.2.2.2.1 res.2.2.2.2.2.2.2.2.2.2.1 res.2.2.2.2.2.2.2.2.2.2.2 c_wish u_above u_below u_whole)) ad 0 0 53 (w_X8_standingMany c_askers c_places c_full c_firsts c_freed c_cost c_firstWorth c_found c_least c_seats c_secondWorth c_stand c_weight c_wish u_above u_below u_whole) [some (.ref 0), some (.int v1), some (.int v2), some (.int v3), none, none] []) {c_full : Int32} {c_firsts : Int32} {c_freed : Int32} {c_cost : Nat → Int64} {c_firstWorth : Nat → Int32} {c_found : Nat → Int32} {c_least : Nat → Int64} {c_seats : Nat → Int32} {c_secondWorth : Nat → Int32} {c_stand : Nat → Int64} {c_weight : Nat → Int32} {v1 : Int32} {v2 : Int32} {v3 : Int32} {s1 : Int32} (hf : f_X8_standingMany_112 N c_askers c_places c_wish k53 c_full c_firsts c_freed c_cost c_firstWorth c_found c_least c_seats c_secondWorth c_stand c_weight v1 v2 v3 s1 = some res) : GG mu_X8_standingMany κ ω A (QR κ ω A ad (some (.int res.1)) (w_X8_standingMany c_askers c_places res.2.1 res.2.2.1 res.2.2.2.1 res.2.2.2.2.1 res.2.2.2.2.2.1 res.2.2.2.2.2.2.1 res.2.2.2.2.2.2.2.1 res.2.2.2.2.2.2.2.2.1 res.2.2.2.2.2.2.2.2.2.1 res.2.2.2.2.2.2.2.2.2.2.1 res.2.2.2.2.2.2.2.2.2.2.2 c_wish u_above u_below u_whole)) ad 0 0 112 (w_X8_standingMany c_askers c_places c_full c_firsts c_freed c_cost c_firstWorth c_found c_least c_seats c_secondWorth c_stand c_weight c_wish u_above u_below u_whole) [some (.ref 0), some (.int v1), some (.int v2), some (.int v3), none, none] [.int s1, .ref 1] := by
  refine G_ldc2 (v := 1000000000000000000) dX8_standingMany_112 k_X8_130 ?_
  refine G_goto 137 dX8_standingMany_115 (by decide) ?_
  exact g_X8_standingMany_137 hk53 hf
def f_X8_standingMany_80 (N : Nat) (c_askers : Int32) (c_places : Int32) (c_wish : Nat → Int32) (k53 : Int32 → Int32 → Int32 → (Nat → Int64) → (Nat → Int32) → (Nat → Int32) → (Nat → Int64) → (Nat → Int32) → (Nat → Int32) → (Nat → Int64) → (Nat → Int32) → Int32 → Int32 → Int32 → Option (Int32 × Int32 × Int32 × Int32 × (Nat → Int64) × (Nat → Int32) × (Nat → Int32) × (Nat → Int64) × (Nat → Int32) × (Nat → Int32) × (Nat → Int64) × (Nat → Int32))) (c_full : Int32) (c_firsts : Int32) (c_freed : Int32) (c_cost : Nat → Int64) (c_firstWorth : Nat → Int32) (c_found : Nat → Int32) (c_least : Nat → Int64) (c_seats : Nat → Int32) (c_secondWorth : Nat → Int32) (c_stand : Nat → Int64) (c_weight : Nat → Int32) (v1 : Int32) (v2 : Int32) (v3 : Int32) (s0 : Int64) : Option (Int32 × Int32 × Int32 × Int32 × (Nat → Int64) × (Nat → Int32) × (Nat → Int32) × (Nat → Int64) × (Nat → Int32) × (Nat → Int32) × (Nat → Int64) × (Nat → Int32)) :=
    (f_X8_worthOf N c_wish v2 v3).bind fun r1 =>
    (if 7 < r1 then
      f_X8_standingMany_112 N c_askers c_places c_wish k53 c_full c_firsts c_freed c_cost c_firstWorth c_found c_least c_seats c_secondWorth c_stand c_weight v1 v2 v3 ((7 * v2) + v3)
    else
      (f_X8_mayStand N c_freed c_firstWorth c_secondWorth c_wish v2 v3).bind fun r4 =>
      (if r4 = 0 then
        f_X8_standingMany_112 N c_askers c_places c_wish k53 c_full c_firsts c_freed c_cost c_firstWorth c_found c_least c_seats c_secondWorth c_stand c_weight v1 v2 v3 ((7 * v2) + v3)
      else
        (f_X8_isFirst N c_firstWorth c_wish v2 v3).bind fun r7 =>
        (if r7 = 0 then
          f_X8_standingMany_136 N c_askers c_places c_wish k53 c_full c_firsts c_freed c_cost c_firstWorth c_found c_least c_seats c_secondWorth c_stand c_weight v1 v2 v3 ((7 * v2) + v3) s0 0
        else
          f_X8_standingMany_136 N c_askers c_places c_wish k53 c_full c_firsts c_freed c_cost c_firstWorth c_found c_least c_seats c_secondWorth c_stand c_weight v1 v2 v3 ((7 * v2) + v3) s0 100)))
set_option maxHeartbeats 4000000 in
set_option maxRecDepth 100000 in
theorem g_X8_standingMany_80 {κ : KC} {ω : KW} {A : Nat → Prop} {ad : Nat → Nat} {u_above : Int64} {u_below : Int64} {u_whole : Int64} {N : Nat} {c_askers : Int32} {c_places : Int32} {c_wish : Nat → Int32}  {k53 : Int32 → Int32 → Int32 → (Nat → Int64) → (Nat → Int32) → (Nat → Int32) → (Nat → Int64) → (Nat → Int32) → (Nat → Int32) → (Nat → Int64) → (Nat → Int32) → Int32 → Int32 → Int32 → Option (Int32 × Int32 × Int32 × Int32 × (Nat → Int64) × (Nat → Int32) × (Nat → Int32) × (Nat → Int64) × (Nat → Int32) × (Nat → Int32) × (Nat → Int64) × (Nat → Int32))} {res : Int32 × Int32 × Int32 × Int32 × (Nat → Int64) × (Nat → Int32) × (Nat → Int32) × (Nat → Int64) × (Nat → Int32) × (Nat → Int32) × (Nat → Int64) × (Nat → Int32)} (hk53 : ∀ {c_full : Int32} {c_firsts : Int32} {c_freed : Int32} {c_cost : Nat → Int64} {c_firstWorth : Nat → Int32} {c_found : Nat → Int32} {c_least : Nat → Int64} {c_seats : Nat → Int32} {c_secondWorth : Nat → Int32} {c_stand : Nat → Int64} {c_weight : Nat → Int32} {v1 : Int32} {v2 : Int32} {v3 : Int32}, k53 c_full c_firsts c_freed c_cost c_firstWorth c_found c_least c_seats c_secondWorth c_stand c_weight v1 v2 v3 = some res → GG mu_X8_standingMany κ ω A (QR κ ω A ad (some (.int res.1)) (w_X8_standingMany c_askers c_places res.2.1 res.2.2.1 res.2.2.2.1 res.2.2.2.2.1 res.2.2.2.2.2.1 res.2.2.2.2.2.2.1 res.2.2.2.2.2.2.2.1 res.2.2.2.2.2.2.2.2.1 res.2.2.2.2.2.2.2.2.2.1 res.2.2.2.2.2.2.2.2.2.2.1 res.2.2.2.2.2.2.2.2.2.2.2 c_wish u_above u_below u_whole)) ad 0 0 53 (w_X8_standingMany c_askers c_places c_full c_firsts c_freed c_cost c_firstWorth c_found c_least c_seats c_secondWorth c_stand c_weight c_wish u_above u_below u_whole) [some (.ref 0), some (.int v1), some (.int v2), some (.int v3), none, none] []) {c_full : Int32} {c_firsts : Int32} {c_freed : Int32} {c_cost : Nat → Int64} {c_firstWorth : Nat → Int32} {c_found : Nat → Int32} {c_least : Nat → Int64} {c_seats : Nat → Int32} {c_secondWorth : Nat → Int32} {c_stand : Nat → Int64} {c_weight : Nat → Int32} {v1 : Int32} {v2 : Int32} {v3 : Int32} {s0 : Int64} (hf : f_X8_standingMany_80 N c_askers c_places c_wish k53 c_full c_firsts c_freed c_cost c_firstWorth c_found c_least c_seats c_secondWorth c_stand c_weight v1 v2 v3 s0 = some res) : GG mu_X8_standingMany κ ω A (QR κ ω A ad (some (.int res.1)) (w_X8_standingMany c_askers c_places res.2.1 res.2.2.1 res.2.2.2.1 res.2.2.2.2.1 res.2.2.2.2.2.1 res.2.2.2.2.2.2.1 res.2.2.2.2.2.2.2.1 res.2.2.2.2.2.2.2.2.1 res.2.2.2.2.2.2.2.2.2.1 res.2.2.2.2.2.2.2.2.2.2.1 res.2.2.2.2.2.2.2.2.2.2.2 c_wish u_above u_below u_whole)) ad 0 0 80 (w_X8_standingMany c_askers c_places c_full c_firsts c_freed c_cost c_firstWorth c_found c_least c_seats c_secondWorth c_stand c_weight c_wish u_above u_below u_whole) [some (.ref 0), some (.int v1), some (.int v2), some (.int v3), none, none] [.long s0] := by
  refine G_lstore dX8_standingMany_80 (ltb rfl) ?_
  change GG _ _ _ _ _ _ _ _ _ _ [some (.ref 0), some (.int v1), some (.int v2), some (.int v3), some (.long s0), none] _
  refine G_aload_n dX8_standingMany_82 rfl rfl ?_
  refine G_get (v := .ref 1) F_X8_30 dX8_standingMany_83 rfl rfl ?_
  refine G_bipush 7 dX8_standingMany_86 (by decide) ?_
  refine G_iload_n dX8_standingMany_88 rfl rfl ?_
  refine G_imul dX8_standingMany_89 ?_
  refine G_iload_n dX8_standingMany_90 rfl rfl ?_
  refine G_iadd dX8_standingMany_91 ?_
  refine G_aload_n dX8_standingMany_92 rfl rfl ?_
  refine G_iload_n dX8_standingMany_93 rfl rfl ?_
  refine G_iload_n dX8_standingMany_94 rfl rfl ?_
  obtain ⟨r1, hc2, hf⟩ := ob hf
  refine G_callV (μ2 := mu_X8_worthOf) (As := [.int v2, .int v3]) (w2 := (w_X8_standingMany c_askers c_places c_full c_firsts c_freed c_cost c_firstWorth c_found c_least c_seats c_secondWorth c_stand c_weight c_wish u_above u_below u_whole)) (wc := (w_X8_worthOf c_wish c_askers c_places u_above u_below c_full c_firsts c_freed u_whole)) (wc2 := (w_X8_worthOf c_wish c_askers c_places u_above u_below c_full c_firsts c_freed u_whole)) (rest := [.int ((7 * v2) + v3), .ref 1]) (rv := [.int r1]) [0, 9] [5, 1000, 8, 1001, 3, 1, 4, 1002, 1003, 2, 6, 7, 1004, 1005, 1006, 1007, 1008, 1009, 1010, 1011] [1, 2, 3, 4, 5, 6, 7, 8] [8, 0, 1, 2, 3, 4, 5, 6, 7, 9] (c_X8_worthOf hc2) cw_X8_worthOf m_X8_111 dX8_standingMany_95 rfl ⟨leb rfl, leb rfl⟩ ⟨rfl, rfl⟩ rfl ⟨_, rfl, rfl⟩ (Fit.mk rfl rfl rfl) rfl (leb rfl) (ROsub.nil rfl rfl) rfl ?_
  change GG _ _ _ _ _ _ _ _ _ (w_X8_standingMany c_askers c_places c_full c_firsts c_freed c_cost c_firstWorth c_found c_least c_seats c_secondWorth c_stand c_weight c_wish u_above u_below u_whole) [some (.ref 0), some (.int v1), some (.int v2), some (.int v3), some (.long s0), none] [.int r1, .int ((7 * v2) + v3), .ref 1]
  refine G_bipush 7 dX8_standingMany_98 (by decide) ?_
  refine G_icmp_gt 112 dX8_standingMany_100 (by decide) (fun h3 => ?_) (fun h3 => ?_)
  · replace hf := ob_t h3 hf
    refine GG.sb (lv2 := [some (.ref 0), some (.int v1), some (.int v2), some (.int v3), none, none]) ?_ (lvS_v rfl (lvS_v rfl (lvS_v rfl (lvS_v rfl (lvS_n (lvS_n (lvS_e)))))))
    exact g_X8_standingMany_112 hk53 hf
  · replace hf := ob_f h3 hf
    refine G_aload_n dX8_standingMany_103 rfl rfl ?_
    refine G_iload_n dX8_standingMany_104 rfl rfl ?_
    refine G_iload_n dX8_standingMany_105 rfl rfl ?_
    obtain ⟨r4, hc5, hf⟩ := ob hf
    refine G_callV (μ2 := mu_X8_mayStand) (As := [.int v2, .int v3]) (w2 := (w_X8_standingMany c_askers c_places c_full c_firsts c_freed c_cost c_firstWorth c_found c_least c_seats c_secondWorth c_stand c_weight c_wish u_above u_below u_whole)) (wc := (w_X8_mayStand c_freed c_firstWorth c_secondWorth c_wish c_askers c_places u_above u_below c_full c_firsts u_whole)) (wc2 := (w_X8_mayStand c_freed c_firstWorth c_secondWorth c_wish c_askers c_places u_above u_below c_full c_firsts u_whole)) (rest := [.int ((7 * v2) + v3), .ref 1]) (rv := [.int r4]) [0, 2, 6, 9] [5, 1000, 8, 1001, 3, 1, 4, 1002, 1003, 7, 1004, 1005, 1006, 1007, 1008, 1009, 1010, 1011] [1, 3, 4, 5, 7, 8] [6, 0, 7, 1, 2, 3, 8, 4, 5, 9] (c_X8_mayStand hc5) cw_X8_mayStand m_X8_194 dX8_standingMany_106 rfl ⟨leb rfl, leb rfl⟩ ⟨rfl, rfl⟩ rfl ⟨_, rfl, rfl⟩ (Fit.mk rfl rfl rfl) rfl (leb rfl) (ROsub.nil rfl rfl) rfl ?_
    change GG _ _ _ _ _ _ _ _ _ (w_X8_standingMany c_askers c_places c_full c_firsts c_freed c_cost c_firstWorth c_found c_least c_seats c_secondWorth c_stand c_weight c_wish u_above u_below u_whole) [some (.ref 0), some (.int v1), some (.int v2), some (.int v3), some (.long s0), none] [.int r4, .int ((7 * v2) + v3), .ref 1]
    refine G_if_ne 118 dX8_standingMany_109 (by decide) (fun h6 => ?_) (fun h6 => ?_)
    · replace hf := ob_f h6 hf
      refine G_lload dX8_standingMany_118 rfl ?_
      refine G_aload_n dX8_standingMany_120 rfl rfl ?_
      refine G_iload_n dX8_standingMany_121 rfl rfl ?_
      refine G_iload_n dX8_standingMany_122 rfl rfl ?_
      obtain ⟨r7, hc8, hf⟩ := ob hf
      refine G_callV (μ2 := mu_X8_isFirst) (As := [.int v2, .int v3]) (w2 := (w_X8_standingMany c_askers c_places c_full c_firsts c_freed c_cost c_firstWorth c_found c_least c_seats c_secondWorth c_stand c_weight c_wish u_above u_below u_whole)) (wc := (w_X8_isFirst c_firstWorth c_wish c_askers c_places u_above u_below c_full c_firsts c_freed u_whole)) (wc2 := (w_X8_isFirst c_firstWorth c_wish c_askers c_places u_above u_below c_full c_firsts c_freed u_whole)) (rest := [.long s0, .int ((7 * v2) + v3), .ref 1]) (rv := [.int r7]) [0, 2, 9] [5, 1000, 8, 1001, 3, 1, 4, 1002, 1003, 6, 7, 1004, 1005, 1006, 1007, 1008, 1009, 1010, 1011] [1, 3, 4, 5, 6, 7, 8] [7, 0, 8, 1, 2, 3, 4, 5, 6, 9] (c_X8_isFirst hc8) cw_X8_isFirst m_X8_180 dX8_standingMany_123 rfl ⟨leb rfl, leb rfl⟩ ⟨rfl, rfl⟩ rfl ⟨_, rfl, rfl⟩ (Fit.mk rfl rfl rfl) rfl (leb rfl) (ROsub.nil rfl rfl) rfl ?_
      change GG _ _ _ _ _ _ _ _ _ (w_X8_standingMany c_askers c_places c_full c_firsts c_freed c_cost c_firstWorth c_found c_least c_seats c_secondWorth c_stand c_weight c_wish u_above u_below u_whole) [some (.ref 0), some (.int v1), some (.int v2), some (.int v3), some (.long s0), none] [.int r7, .long s0, .int ((7 * v2) + v3), .ref 1]
      refine G_if_eq 135 dX8_standingMany_126 (by decide) (fun h9 => ?_) (fun h9 => ?_)
      · replace hf := ob_t h9 hf
        refine G_lconst 0 dX8_standingMany_135 (by decide) ?_
        refine GG.sb (lv2 := [some (.ref 0), some (.int v1), some (.int v2), some (.int v3), none, none]) ?_ (lvS_v rfl (lvS_v rfl (lvS_v rfl (lvS_v rfl (lvS_n (lvS_n (lvS_e)))))))
        exact g_X8_standingMany_136 hk53 hf
      · replace hf := ob_f h9 hf
        refine G_ldc2 (v := 100) dX8_standingMany_129 k_X8_200 ?_
        refine G_goto 136 dX8_standingMany_132 (by decide) ?_
        refine GG.sb (lv2 := [some (.ref 0), some (.int v1), some (.int v2), some (.int v3), none, none]) ?_ (lvS_v rfl (lvS_v rfl (lvS_v rfl (lvS_v rfl (lvS_n (lvS_n (lvS_e)))))))
        exact g_X8_standingMany_136 hk53 hf
    · replace hf := ob_t h6 hf
      refine GG.sb (lv2 := [some (.ref 0), some (.int v1), some (.int v2), some (.int v3), none, none]) ?_ (lvS_v rfl (lvS_v rfl (lvS_v rfl (lvS_v rfl (lvS_n (lvS_n (lvS_e)))))))
      exact g_X8_standingMany_112 hk53 hf
def f_X8_standingMany_53 (N : Nat) (c_askers : Int32) (c_places : Int32) (c_wish : Nat → Int32) (k43 : Int32 → Int32 → Int32 → (Nat → Int64) → (Nat → Int32) → (Nat → Int32) → (Nat → Int64) → (Nat → Int32) → (Nat → Int32) → (Nat → Int64) → (Nat → Int32) → Int32 → Int32 → Option (Int32 × Int32 × Int32 × Int32 × (Nat → Int64) × (Nat → Int32) × (Nat → Int32) × (Nat → Int64) × (Nat → Int32) × (Nat → Int32) × (Nat → Int64) × (Nat → Int32))) : Nat → Int32 → Int32 → Int32 → (Nat → Int64) → (Nat → Int32) → (Nat → Int32) → (Nat → Int64) → (Nat → Int32) → (Nat → Int32) → (Nat → Int64) → (Nat → Int32) → Int32 → Int32 → Int32 → Option (Int32 × Int32 × Int32 × Int32 × (Nat → Int64) × (Nat → Int32) × (Nat → Int32) × (Nat → Int64) × (Nat → Int32) × (Nat → Int32) × (Nat → Int64) × (Nat → Int32))
  | 0, _, _, _, _, _, _, _, _, _, _, _, _, _, _ => none
  | n + 1, c_full, c_firsts, c_freed, c_cost, c_firstWorth, c_found, c_least, c_seats, c_secondWorth, c_stand, c_weight, v1, v2, v3 =>
    (if c_places < v3 then
      k43 c_full c_firsts c_freed c_cost c_firstWorth c_found c_least c_seats c_secondWorth c_stand c_weight v1 (v2 + 1)
    else
      (if v3 = 0 then
        f_X8_standingMany_80 N c_askers c_places c_wish (f_X8_standingMany_53 N c_askers c_places c_wish k43 n) c_full c_firsts c_freed c_cost c_firstWorth c_found c_least c_seats c_secondWorth c_stand c_weight v1 v2 v3 0
      else
        (if v1 = 0 then
          f_X8_standingMany_80 N c_askers c_places c_wish (f_X8_standingMany_53 N c_askers c_places c_wish k43 n) c_full c_firsts c_freed c_cost c_firstWorth c_found c_least c_seats c_secondWorth c_stand c_weight v1 v2 v3 (-1 : Int64)
        else
          f_X8_standingMany_80 N c_askers c_places c_wish (f_X8_standingMany_53 N c_askers c_places c_wish k43 n) c_full c_firsts c_freed c_cost c_firstWorth c_found c_least c_seats c_secondWorth c_stand c_weight v1 v2 v3 1)))
set_option maxHeartbeats 4000000 in
set_option maxRecDepth 100000 in
theorem g_X8_standingMany_53 {κ : KC} {ω : KW} {A : Nat → Prop} {ad : Nat → Nat} {u_above : Int64} {u_below : Int64} {u_whole : Int64} {N : Nat} {c_askers : Int32} {c_places : Int32} {c_wish : Nat → Int32}  {k43 : Int32 → Int32 → Int32 → (Nat → Int64) → (Nat → Int32) → (Nat → Int32) → (Nat → Int64) → (Nat → Int32) → (Nat → Int32) → (Nat → Int64) → (Nat → Int32) → Int32 → Int32 → Option (Int32 × Int32 × Int32 × Int32 × (Nat → Int64) × (Nat → Int32) × (Nat → Int32) × (Nat → Int64) × (Nat → Int32) × (Nat → Int32) × (Nat → Int64) × (Nat → Int32))} {res : Int32 × Int32 × Int32 × Int32 × (Nat → Int64) × (Nat → Int32) × (Nat → Int32) × (Nat → Int64) × (Nat → Int32) × (Nat → Int32) × (Nat → Int64) × (Nat → Int32)} (hk43 : ∀ {c_full : Int32} {c_firsts : Int32} {c_freed : Int32} {c_cost : Nat → Int64} {c_firstWorth : Nat → Int32} {c_found : Nat → Int32} {c_least : Nat → Int64} {c_seats : Nat → Int32} {c_secondWorth : Nat → Int32} {c_stand : Nat → Int64} {c_weight : Nat → Int32} {v1 : Int32} {v2 : Int32}, k43 c_full c_firsts c_freed c_cost c_firstWorth c_found c_least c_seats c_secondWorth c_stand c_weight v1 v2 = some res → GG mu_X8_standingMany κ ω A (QR κ ω A ad (some (.int res.1)) (w_X8_standingMany c_askers c_places res.2.1 res.2.2.1 res.2.2.2.1 res.2.2.2.2.1 res.2.2.2.2.2.1 res.2.2.2.2.2.2.1 res.2.2.2.2.2.2.2.1 res.2.2.2.2.2.2.2.2.1 res.2.2.2.2.2.2.2.2.2.1 res.2.2.2.2.2.2.2.2.2.2.1 res.2.2.2.2.2.2.2.2.2.2.2 c_wish u_above u_below u_whole)) ad 0 0 43 (w_X8_standingMany c_askers c_places c_full c_firsts c_freed c_cost c_firstWorth c_found c_least c_seats c_secondWorth c_stand c_weight c_wish u_above u_below u_whole) [some (.ref 0), some (.int v1), some (.int v2), none, none, none] []) : ∀ (n : Nat) {c_full : Int32} {c_firsts : Int32} {c_freed : Int32} {c_cost : Nat → Int64} {c_firstWorth : Nat → Int32} {c_found : Nat → Int32} {c_least : Nat → Int64} {c_seats : Nat → Int32} {c_secondWorth : Nat → Int32} {c_stand : Nat → Int64} {c_weight : Nat → Int32} {v1 : Int32} {v2 : Int32} {v3 : Int32}, f_X8_standingMany_53 N c_askers c_places c_wish k43 n c_full c_firsts c_freed c_cost c_firstWorth c_found c_least c_seats c_secondWorth c_stand c_weight v1 v2 v3 = some res → GG mu_X8_standingMany κ ω A (QR κ ω A ad (some (.int res.1)) (w_X8_standingMany c_askers c_places res.2.1 res.2.2.1 res.2.2.2.1 res.2.2.2.2.1 res.2.2.2.2.2.1 res.2.2.2.2.2.2.1 res.2.2.2.2.2.2.2.1 res.2.2.2.2.2.2.2.2.1 res.2.2.2.2.2.2.2.2.2.1 res.2.2.2.2.2.2.2.2.2.2.1 res.2.2.2.2.2.2.2.2.2.2.2 c_wish u_above u_below u_whole)) ad 0 0 53 (w_X8_standingMany c_askers c_places c_full c_firsts c_freed c_cost c_firstWorth c_found c_least c_seats c_secondWorth c_stand c_weight c_wish u_above u_below u_whole) [some (.ref 0), some (.int v1), some (.int v2), some (.int v3), none, none] [] := by
  intro n
  induction n with
  | zero => intro c_full c_firsts c_freed c_cost c_firstWorth c_found c_least c_seats c_secondWorth c_stand c_weight v1 v2 v3 hf; exact ob_0 hf
  | succ n ih =>
    intro c_full c_firsts c_freed c_cost c_firstWorth c_found c_least c_seats c_secondWorth c_stand c_weight v1 v2 v3 hf
    refine G_iload_n dX8_standingMany_53 rfl rfl ?_
    refine G_aload_n dX8_standingMany_54 rfl rfl ?_
    refine G_get (v := .int c_places) F_X8_97 dX8_standingMany_55 rfl rfl ?_
    refine G_icmp_gt 144 dX8_standingMany_58 (by decide) (fun h1 => ?_) (fun h1 => ?_)
    · replace hf := ob_t h1 hf
      refine G_iinc 1 dX8_standingMany_144 (by decide) rfl (ltb rfl) ?_
      change GG _ _ _ _ _ _ _ _ _ _ [some (.ref 0), some (.int v1), some (.int (v2 + 1)), some (.int v3), none, none] _
      refine G_goto 43 dX8_standingMany_147 (by decide) ?_
      refine GG.sb (lv2 := [some (.ref 0), some (.int v1), some (.int (v2 + 1)), none, none, none]) ?_ (lvS_v rfl (lvS_v rfl (lvS_v rfl (lvS_n (lvS_n (lvS_n (lvS_e)))))))
      exact hk43 hf
    · replace hf := ob_f h1 hf
      refine G_iload_n dX8_standingMany_61 rfl rfl ?_
      refine G_if_ne 69 dX8_standingMany_62 (by decide) (fun h2 => ?_) (fun h2 => ?_)
      · replace hf := ob_f h2 hf
        refine G_iload_n dX8_standingMany_69 rfl rfl ?_
        refine G_if_ne 79 dX8_standingMany_70 (by decide) (fun h3 => ?_) (fun h3 => ?_)
        · replace hf := ob_f h3 hf
          refine G_lconst 1 dX8_standingMany_79 (by decide) ?_
          exact g_X8_standingMany_80 ih hf
        · replace hf := ob_t h3 hf
          refine G_ldc2 (v := (-1 : Int64)) dX8_standingMany_73 k_X8_148 ?_
          refine G_goto 80 dX8_standingMany_76 (by decide) ?_
          exact g_X8_standingMany_80 ih hf
      · replace hf := ob_t h2 hf
        refine G_lconst 0 dX8_standingMany_65 (by decide) ?_
        refine G_goto 80 dX8_standingMany_66 (by decide) ?_
        exact g_X8_standingMany_80 ih hf
def f_X8_standingMany_43 (N : Nat) (c_askers : Int32) (c_places : Int32) (c_wish : Nat → Int32) : Nat → Int32 → Int32 → Int32 → (Nat → Int64) → (Nat → Int32) → (Nat → Int32) → (Nat → Int64) → (Nat → Int32) → (Nat → Int32) → (Nat → Int64) → (Nat → Int32) → Int32 → Int32 → Option (Int32 × Int32 × Int32 × Int32 × (Nat → Int64) × (Nat → Int32) × (Nat → Int32) × (Nat → Int64) × (Nat → Int32) × (Nat → Int32) × (Nat → Int64) × (Nat → Int32))
  | 0, _, _, _, _, _, _, _, _, _, _, _, _, _ => none
  | n + 1, c_full, c_firsts, c_freed, c_cost, c_firstWorth, c_found, c_least, c_seats, c_secondWorth, c_stand, c_weight, v1, v2 =>
    (if c_askers ≤ v2 then
      (f_X8_findLeast N c_askers c_places c_cost c_seats c_wish c_full c_found c_least c_weight).bind fun (r2, o3, o4, o5, o6) =>
      (if v1 = 0 then
        f_X8_standingMany_175 N c_askers c_places c_wish o3 c_firsts c_freed c_cost c_firstWorth o4 o5 c_seats c_secondWorth c_stand o6 (-(r2 + (100 * c_firsts.toInt64)))
      else
        f_X8_standingMany_175 N c_askers c_places c_wish o3 c_firsts c_freed c_cost c_firstWorth o4 o5 c_seats c_secondWorth c_stand o6 (r2 + (100 * c_firsts.toInt64)))
    else
      f_X8_standingMany_53 N c_askers c_places c_wish (f_X8_standingMany_43 N c_askers c_places c_wish n) N c_full c_firsts c_freed c_cost c_firstWorth c_found c_least c_seats c_secondWorth c_stand c_weight v1 v2 0)
set_option maxHeartbeats 4000000 in
set_option maxRecDepth 100000 in
theorem g_X8_standingMany_43 {κ : KC} {ω : KW} {A : Nat → Prop} {ad : Nat → Nat} {u_above : Int64} {u_below : Int64} {u_whole : Int64} {N : Nat} {c_askers : Int32} {c_places : Int32} {c_wish : Nat → Int32}  {res : Int32 × Int32 × Int32 × Int32 × (Nat → Int64) × (Nat → Int32) × (Nat → Int32) × (Nat → Int64) × (Nat → Int32) × (Nat → Int32) × (Nat → Int64) × (Nat → Int32)} : ∀ (n : Nat) {c_full : Int32} {c_firsts : Int32} {c_freed : Int32} {c_cost : Nat → Int64} {c_firstWorth : Nat → Int32} {c_found : Nat → Int32} {c_least : Nat → Int64} {c_seats : Nat → Int32} {c_secondWorth : Nat → Int32} {c_stand : Nat → Int64} {c_weight : Nat → Int32} {v1 : Int32} {v2 : Int32}, f_X8_standingMany_43 N c_askers c_places c_wish n c_full c_firsts c_freed c_cost c_firstWorth c_found c_least c_seats c_secondWorth c_stand c_weight v1 v2 = some res → GG mu_X8_standingMany κ ω A (QR κ ω A ad (some (.int res.1)) (w_X8_standingMany c_askers c_places res.2.1 res.2.2.1 res.2.2.2.1 res.2.2.2.2.1 res.2.2.2.2.2.1 res.2.2.2.2.2.2.1 res.2.2.2.2.2.2.2.1 res.2.2.2.2.2.2.2.2.1 res.2.2.2.2.2.2.2.2.2.1 res.2.2.2.2.2.2.2.2.2.2.1 res.2.2.2.2.2.2.2.2.2.2.2 c_wish u_above u_below u_whole)) ad 0 0 43 (w_X8_standingMany c_askers c_places c_full c_firsts c_freed c_cost c_firstWorth c_found c_least c_seats c_secondWorth c_stand c_weight c_wish u_above u_below u_whole) [some (.ref 0), some (.int v1), some (.int v2), none, none, none] [] := by
  intro n
  induction n with
  | zero => intro c_full c_firsts c_freed c_cost c_firstWorth c_found c_least c_seats c_secondWorth c_stand c_weight v1 v2 hf; exact ob_0 hf
  | succ n ih =>
    intro c_full c_firsts c_freed c_cost c_firstWorth c_found c_least c_seats c_secondWorth c_stand c_weight v1 v2 hf
    refine G_iload_n dX8_standingMany_43 rfl rfl ?_
    refine G_aload_n dX8_standingMany_44 rfl rfl ?_
    refine G_get (v := .int c_askers) F_X8_89 dX8_standingMany_45 rfl rfl ?_
    refine G_icmp_ge 150 dX8_standingMany_48 (by decide) (fun h1 => ?_) (fun h1 => ?_)
    · replace hf := ob_t h1 hf
      refine G_aload_n dX8_standingMany_150 rfl rfl ?_
      obtain ⟨⟨r2, o3, o4, o5, o6⟩, hc7, hf⟩ := ob hf
      refine G_callV (μ2 := mu_X8_findLeast) (As := []) (w2 := (w_X8_standingMany c_askers c_places o3 c_firsts c_freed c_cost c_firstWorth o4 o5 c_seats c_secondWorth c_stand o6 c_wish u_above u_below u_whole)) (wc := (w_X8_findLeast c_askers c_places c_full c_cost c_found c_least c_seats c_weight c_wish u_above u_below c_firsts c_freed u_whole)) (wc2 := (w_X8_findLeast c_askers c_places o3 c_cost o4 o5 c_seats o6 c_wish u_above u_below c_firsts c_freed u_whole)) (rest := []) (rv := [.long r2]) [0, 1, 3, 4, 5, 8, 9] [1000, 1001, 1002, 1003, 2, 6, 7, 1004, 1005, 1006, 1007, 1008, 1009, 1010, 1011] [2, 6, 7] [3, 4, 0, 5, 6, 7, 1, 2, 8, 9] (c_X8_findLeast hc7) cw_X8_findLeast m_X8_144 dX8_standingMany_151 rfl ⟨leb rfl, leb rfl⟩ ⟨rfl, rfl⟩ rfl ⟨_, rfl, rfl⟩ (Fit.mk rfl rfl rfl) rfl (leb rfl) (ROsub.nil rfl rfl) rfl ?_
      change GG _ _ _ _ _ _ _ _ _ (w_X8_standingMany c_askers c_places o3 c_firsts c_freed c_cost c_firstWorth o4 o5 c_seats c_secondWorth c_stand o6 c_wish u_above u_below u_whole) [some (.ref 0), some (.int v1), some (.int v2), none, none, none] [.long r2]
      refine G_ldc2 (v := 100) dX8_standingMany_154 k_X8_200 ?_
      refine G_aload_n dX8_standingMany_157 rfl rfl ?_
      refine G_get (v := .int c_firsts) F_X8_174 dX8_standingMany_158 rfl rfl ?_
      refine G_i2l dX8_standingMany_161 ?_
      refine G_lmul dX8_standingMany_162 ?_
      refine G_ladd dX8_standingMany_163 ?_
      refine G_lstore_n dX8_standingMany_164 rfl (ltb rfl) ?_
      change GG _ _ _ _ _ _ _ _ _ _ [some (.ref 0), some (.int v1), some (.long (r2 + (100 * c_firsts.toInt64))), none, none, none] _
      refine G_iload_n dX8_standingMany_165 rfl rfl ?_
      refine G_if_ne 174 dX8_standingMany_166 (by decide) (fun h8 => ?_) (fun h8 => ?_)
      · replace hf := ob_f h8 hf
        refine G_lload_n dX8_standingMany_174 rfl rfl ?_
        refine GG.sb (lv2 := [none, none, none, none, none, none]) ?_ (lvS_n (lvS_n (lvS_n (lvS_n (lvS_n (lvS_n (lvS_e)))))))
        exact g_X8_standingMany_175 hf
      · replace hf := ob_t h8 hf
        refine G_lload_n dX8_standingMany_169 rfl rfl ?_
        refine G_lneg dX8_standingMany_170 ?_
        refine G_goto 175 dX8_standingMany_171 (by decide) ?_
        refine GG.sb (lv2 := [none, none, none, none, none, none]) ?_ (lvS_n (lvS_n (lvS_n (lvS_n (lvS_n (lvS_n (lvS_e)))))))
        exact g_X8_standingMany_175 hf
    · replace hf := ob_f h1 hf
      refine G_iconst 0 dX8_standingMany_51 (by decide) ?_
      refine G_istore_n dX8_standingMany_52 rfl (ltb rfl) ?_
      change GG _ _ _ _ _ _ _ _ _ _ [some (.ref 0), some (.int v1), some (.int v2), some (.int 0), none, none] _
      exact g_X8_standingMany_53 ih N hf
def f_X8_standingMany (N : Nat) (c_askers : Int32) (c_places : Int32) (c_wish : Nat → Int32) (c_full : Int32) (c_firsts : Int32) (c_freed : Int32) (c_cost : Nat → Int64) (c_firstWorth : Nat → Int32) (c_found : Nat → Int32) (c_least : Nat → Int64) (c_seats : Nat → Int32) (c_secondWorth : Nat → Int32) (c_stand : Nat → Int64) (c_weight : Nat → Int32) (a1 : Int32) : Option (Int32 × Int32 × Int32 × Int32 × (Nat → Int64) × (Nat → Int32) × (Nat → Int32) × (Nat → Int64) × (Nat → Int32) × (Nat → Int32) × (Nat → Int64) × (Nat → Int32)) :=
  (f_X8_in N a1 0 1).bind fun r1 =>
  (if r1 = 0 then
    some ((-2 : Int32), c_full, c_firsts, c_freed, c_cost, c_firstWorth, c_found, c_least, c_seats, c_secondWorth, c_stand, c_weight)
  else
    (f_X8_findStand N c_askers c_places c_wish c_full c_firsts c_freed c_cost c_firstWorth c_found c_least c_seats c_secondWorth c_stand c_weight).bind fun (o4, o5, o6, o7, o8, o9, o10, o11, o12, o13, o14) =>
    (f_X8_standAt N 0 o5 o4).bind fun r16 =>
    (rdL 331776 o13 r16).bind fun t18 =>
    (if t18 = 0 then
      some ((-1 : Int32), o4, o5, o6, o7, o8, o9, o10, o11, o12, o13, o14)
    else
      f_X8_standingMany_43 N c_askers c_places c_wish N o4 o5 o6 o7 o8 o9 o10 o11 o12 o13 o14 a1 0))
set_option maxHeartbeats 4000000 in
set_option maxRecDepth 100000 in
theorem c_X8_standingMany {N : Nat} {c_askers : Int32} {c_places : Int32} {c_wish : Nat → Int32} {c_full : Int32} {c_firsts : Int32} {c_freed : Int32} {c_cost : Nat → Int64} {c_firstWorth : Nat → Int32} {c_found : Nat → Int32} {c_least : Nat → Int64} {c_seats : Nat → Int32} {c_secondWorth : Nat → Int32} {c_stand : Nat → Int64} {c_weight : Nat → Int32} {u_above : Int64} {u_below : Int64} {u_whole : Int64} {a1 : Int32} {res : Int32 × Int32 × Int32 × Int32 × (Nat → Int64) × (Nat → Int32) × (Nat → Int32) × (Nat → Int64) × (Nat → Int32) × (Nat → Int32) × (Nat → Int64) × (Nat → Int32)} (hf : f_X8_standingMany N c_askers c_places c_wish c_full c_firsts c_freed c_cost c_firstWorth c_found c_least c_seats c_secondWorth c_stand c_weight a1 = some res) : Con mu_X8_standingMany [.ref 0, .int a1] (w_X8_standingMany c_askers c_places c_full c_firsts c_freed c_cost c_firstWorth c_found c_least c_seats c_secondWorth c_stand c_weight c_wish u_above u_below u_whole) (some (.int res.1)) (w_X8_standingMany c_askers c_places res.2.1 res.2.2.1 res.2.2.2.1 res.2.2.2.2.1 res.2.2.2.2.2.1 res.2.2.2.2.2.2.1 res.2.2.2.2.2.2.2.1 res.2.2.2.2.2.2.2.2.1 res.2.2.2.2.2.2.2.2.2.1 res.2.2.2.2.2.2.2.2.2.2.1 res.2.2.2.2.2.2.2.2.2.2.2 c_wish u_above u_below u_whole) := by
  refine Con.mk (show plainName RX8 = true by decide +kernel) (leb rfl) (fun κ ω A ad => ?_)
  change GG mu_X8_standingMany κ ω A (QR κ ω A ad (some (.int res.1)) (w_X8_standingMany c_askers c_places res.2.1 res.2.2.1 res.2.2.2.1 res.2.2.2.2.1 res.2.2.2.2.2.1 res.2.2.2.2.2.2.1 res.2.2.2.2.2.2.2.1 res.2.2.2.2.2.2.2.2.1 res.2.2.2.2.2.2.2.2.2.1 res.2.2.2.2.2.2.2.2.2.2.1 res.2.2.2.2.2.2.2.2.2.2.2 c_wish u_above u_below u_whole)) ad 0 0 0 (w_X8_standingMany c_askers c_places c_full c_firsts c_freed c_cost c_firstWorth c_found c_least c_seats c_secondWorth c_stand c_weight c_wish u_above u_below u_whole) [some (.ref 0), some (.int a1), none, none, none, none] []
  refine G_iload_n dX8_standingMany_0 rfl rfl ?_
  refine G_iconst 0 dX8_standingMany_1 (by decide) ?_
  refine G_iconst 1 dX8_standingMany_2 (by decide) ?_
  obtain ⟨r1, hc2, hf⟩ := ob hf
  refine G_callS (μ2 := mu_X8_in) (As := [.int a1, .int 0, .int 1]) (w2 := (w_X8_standingMany c_askers c_places c_full c_firsts c_freed c_cost c_firstWorth c_found c_least c_seats c_secondWorth c_stand c_weight c_wish u_above u_below u_whole)) (wc := []) (wc2 := []) (rest := []) (rv := [.int r1]) [] [] [0, 1, 2, 3, 4, 5, 6, 7, 8, 9] [0, 1, 2, 3, 4, 5, 6, 7, 8, 9] (c_X8_in hc2) cw_X8_in m_X8_93 rfl dX8_standingMany_3 rfl ⟨leb rfl, leb rfl⟩ ⟨rfl, rfl⟩ (Fit.mk rfl rfl rfl) rfl (leb rfl) (ROsub.nil rfl rfl) rfl ?_
  change GG _ _ _ _ _ _ _ _ _ (w_X8_standingMany c_askers c_places c_full c_firsts c_freed c_cost c_firstWorth c_found c_least c_seats c_secondWorth c_stand c_weight c_wish u_above u_below u_whole) [some (.ref 0), some (.int a1), none, none, none, none] [.int r1]
  refine G_if_ne 12 dX8_standingMany_6 (by decide) (fun h3 => ?_) (fun h3 => ?_)
  · replace hf := ob_f h3 hf
    refine G_aload_n dX8_standingMany_12 rfl rfl ?_
    obtain ⟨⟨o4, o5, o6, o7, o8, o9, o10, o11, o12, o13, o14⟩, hc15, hf⟩ := ob hf
    refine G_callV (μ2 := mu_X8_findStand) (As := []) (w2 := (w_X8_standingMany c_askers c_places o4 o5 o6 o7 o8 o9 o10 o11 o12 o13 o14 c_wish u_above u_below u_whole)) (wc := (w_X8_findStand c_askers c_places c_full c_firsts c_freed c_cost c_firstWorth c_found c_least c_seats c_secondWorth c_stand c_weight c_wish u_above u_below u_whole)) (wc2 := (w_X8_findStand c_askers c_places o4 o5 o6 o7 o8 o9 o10 o11 o12 o13 o14 c_wish u_above u_below u_whole)) (rest := []) (rv := []) [0, 1, 2, 3, 4, 5, 6, 7, 8, 9] [1000, 1001, 1002, 1003, 1004, 1005, 1006, 1007, 1008, 1009, 1010, 1011] [] [0, 1, 2, 3, 4, 5, 6, 7, 8, 9] (c_X8_findStand hc15) cw_X8_findStand m_X8_197 dX8_standingMany_13 rfl ⟨leb rfl, leb rfl⟩ ⟨rfl, rfl⟩ rfl ⟨_, rfl, rfl⟩ (Fit.mk rfl rfl rfl) rfl (leb rfl) (ROsub.nil rfl rfl) rfl ?_
    change GG _ _ _ _ _ _ _ _ _ (w_X8_standingMany c_askers c_places o4 o5 o6 o7 o8 o9 o10 o11 o12 o13 o14 c_wish u_above u_below u_whole) [some (.ref 0), some (.int a1), none, none, none, none] []
    refine G_aload_n dX8_standingMany_16 rfl rfl ?_
    refine G_get (v := .ref 7) F_X8_49 dX8_standingMany_17 rfl rfl ?_
    refine G_aload_n dX8_standingMany_20 rfl rfl ?_
    refine G_iconst 0 dX8_standingMany_21 (by decide) ?_
    refine G_aload_n dX8_standingMany_22 rfl rfl ?_
    refine G_get (v := .int o5) F_X8_174 dX8_standingMany_23 rfl rfl ?_
    refine G_aload_n dX8_standingMany_26 rfl rfl ?_
    refine G_get (v := .int o4) F_X8_114 dX8_standingMany_27 rfl rfl ?_
    obtain ⟨r16, hc17, hf⟩ := ob hf
    refine G_callV (μ2 := mu_X8_standAt) (As := [.int 0, .int o5, .int o4]) (w2 := (w_X8_standingMany c_askers c_places o4 o5 o6 o7 o8 o9 o10 o11 o12 o13 o14 c_wish u_above u_below u_whole)) (wc := (w_X8_standAt c_askers c_places u_above u_below o4 o5 o6 u_whole)) (wc2 := (w_X8_standAt c_askers c_places u_above u_below o4 o5 o6 u_whole)) (rest := [.ref 7]) (rv := [.int r16]) [0] [5, 9, 1000, 8, 1001, 3, 1, 4, 1002, 1003, 2, 6, 7, 1004, 1005, 1006, 1007, 1008, 1009, 1010, 1011] [1, 2, 3, 4, 5, 6, 7, 8, 9] [9, 0, 1, 2, 3, 4, 5, 6, 7, 8] (c_X8_standAt hc17) cw_X8_standAt m_X8_187 dX8_standingMany_30 rfl ⟨leb rfl, leb rfl⟩ ⟨rfl, rfl⟩ rfl ⟨_, rfl, rfl⟩ (Fit.mk rfl rfl rfl) rfl (leb rfl) (ROsub.nil rfl rfl) rfl ?_
    change GG _ _ _ _ _ _ _ _ _ (w_X8_standingMany c_askers c_places o4 o5 o6 o7 o8 o9 o10 o11 o12 o13 o14 c_wish u_above u_below u_whole) [some (.ref 0), some (.int a1), none, none, none, none] [.int r16, .ref 7]
    obtain ⟨t18, ht18, hf⟩ := ob hf
    refine G_lald dX8_standingMany_33 rfl ht18 ?_
    refine G_lconst 0 dX8_standingMany_34 (by decide) ?_
    refine G_lcmp_ne 41 dX8_standingMany_35 dX8_standingMany_36 (by decide) (fun h19 => ?_) (fun h19 => ?_)
    · replace hf := ob_f h19 hf
      refine G_iconst 0 dX8_standingMany_41 (by decide) ?_
      refine G_istore_n dX8_standingMany_42 rfl (ltb rfl) ?_
      change GG _ _ _ _ _ _ _ _ _ _ [some (.ref 0), some (.int a1), some (.int 0), none, none, none] _
      exact g_X8_standingMany_43 N hf
    · replace hf := ob_t h19 hf
      refine G_iconst (-1 : Int32) dX8_standingMany_39 (by decide) ?_
      obtain rfl := os hf
      exact G_ireturn dX8_standingMany_40 rfl
  · replace hf := ob_t h3 hf
    refine G_bipush (-2 : Int32) dX8_standingMany_9 (by decide) ?_
    obtain rfl := os hf
    exact G_ireturn dX8_standingMany_11 rfl
set_option maxRecDepth 20000 in
theorem dX8_turn_0 : decode cX8_turn 0 = .ok (.iconst 0, 1) := by decide +kernel
set_option maxRecDepth 20000 in
theorem dX8_turn_1 : decode cX8_turn 1 = .ok (.istore_n 3, 1) := by decide +kernel
set_option maxRecDepth 20000 in
theorem dX8_turn_2 : decode cX8_turn 2 = .ok (.aload_n 0, 1) := by decide +kernel
set_option maxRecDepth 20000 in
theorem dX8_turn_3 : decode cX8_turn 3 = .ok (.iload_n 2, 1) := by decide +kernel
set_option maxRecDepth 20000 in
theorem dX8_turn_4 : decode cX8_turn 4 = .ok (.invokevirtual 108, 3) := by decide +kernel
set_option maxRecDepth 20000 in
theorem dX8_turn_7 : decode cX8_turn 7 = .ok (.ifCond .eq 11, 3) := by decide +kernel
set_option maxRecDepth 20000 in
theorem dX8_turn_10 : decode cX8_turn 10 = .ok (.iload_n 1, 1) := by decide +kernel
set_option maxRecDepth 20000 in
theorem dX8_turn_11 : decode cX8_turn 11 = .ok (.ifCond .lt 7, 3) := by decide +kernel
set_option maxRecDepth 20000 in
theorem dX8_turn_14 : decode cX8_turn 14 = .ok (.iconst 1, 1) := by decide +kernel
set_option maxRecDepth 20000 in
theorem dX8_turn_15 : decode cX8_turn 15 = .ok (.goto 4, 3) := by decide +kernel
set_option maxRecDepth 20000 in
theorem dX8_turn_18 : decode cX8_turn 18 = .ok (.iconst 0, 1) := by decide +kernel
set_option maxRecDepth 20000 in
theorem dX8_turn_19 : decode cX8_turn 19 = .ok (.istore 4, 2) := by decide +kernel
set_option maxRecDepth 20000 in
theorem dX8_turn_21 : decode cX8_turn 21 = .ok (.iload_n 1, 1) := by decide +kernel
set_option maxRecDepth 20000 in
theorem dX8_turn_22 : decode cX8_turn 22 = .ok (.istore 5, 2) := by decide +kernel
set_option maxRecDepth 20000 in
theorem dX8_turn_24 : decode cX8_turn 24 = .ok (.aload_n 0, 1) := by decide +kernel
set_option maxRecDepth 20000 in
theorem dX8_turn_25 : decode cX8_turn 25 = .ok (.getfield 89, 3) := by decide +kernel
set_option maxRecDepth 20000 in
theorem dX8_turn_28 : decode cX8_turn 28 = .ok (.iconst 1, 1) := by decide +kernel
set_option maxRecDepth 20000 in
theorem dX8_turn_29 : decode cX8_turn 29 = .ok (.isub, 1) := by decide +kernel
set_option maxRecDepth 20000 in
theorem dX8_turn_30 : decode cX8_turn 30 = .ok (.istore 6, 2) := by decide +kernel
set_option maxRecDepth 20000 in
theorem dX8_turn_32 : decode cX8_turn 32 = .ok (.iload 6, 2) := by decide +kernel
set_option maxRecDepth 20000 in
theorem dX8_turn_34 : decode cX8_turn 34 = .ok (.ifCond .lt 159, 3) := by decide +kernel
set_option maxRecDepth 20000 in
theorem dX8_turn_37 : decode cX8_turn 37 = .ok (.iload 4, 2) := by decide +kernel
set_option maxRecDepth 20000 in
theorem dX8_turn_39 : decode cX8_turn 39 = .ok (.ifCond .eq 154, 3) := by decide +kernel
set_option maxRecDepth 20000 in
theorem dX8_turn_42 : decode cX8_turn 42 = .ok (.iload 5, 2) := by decide +kernel
set_option maxRecDepth 20000 in
theorem dX8_turn_44 : decode cX8_turn 44 = .ok (.bipush 8, 2) := by decide +kernel
set_option maxRecDepth 20000 in
theorem dX8_turn_46 : decode cX8_turn 46 = .ok (.irem, 1) := by decide +kernel
set_option maxRecDepth 20000 in
theorem dX8_turn_47 : decode cX8_turn 47 = .ok (.istore 7, 2) := by decide +kernel
set_option maxRecDepth 20000 in
theorem dX8_turn_49 : decode cX8_turn 49 = .ok (.iload 5, 2) := by decide +kernel
set_option maxRecDepth 20000 in
theorem dX8_turn_51 : decode cX8_turn 51 = .ok (.bipush 8, 2) := by decide +kernel
set_option maxRecDepth 20000 in
theorem dX8_turn_53 : decode cX8_turn 53 = .ok (.idiv, 1) := by decide +kernel
set_option maxRecDepth 20000 in
theorem dX8_turn_54 : decode cX8_turn 54 = .ok (.istore 5, 2) := by decide +kernel
set_option maxRecDepth 20000 in
theorem dX8_turn_56 : decode cX8_turn 56 = .ok (.aload_n 0, 1) := by decide +kernel
set_option maxRecDepth 20000 in
theorem dX8_turn_57 : decode cX8_turn 57 = .ok (.iload 7, 2) := by decide +kernel
set_option maxRecDepth 20000 in
theorem dX8_turn_59 : decode cX8_turn 59 = .ok (.invokevirtual 108, 3) := by decide +kernel
set_option maxRecDepth 20000 in
theorem dX8_turn_62 : decode cX8_turn 62 = .ok (.ifCond .eq 16, 3) := by decide +kernel
set_option maxRecDepth 20000 in
theorem dX8_turn_65 : decode cX8_turn 65 = .ok (.iload_n 3, 1) := by decide +kernel
set_option maxRecDepth 20000 in
theorem dX8_turn_66 : decode cX8_turn 66 = .ok (.iload 7, 2) := by decide +kernel
set_option maxRecDepth 20000 in
theorem dX8_turn_68 : decode cX8_turn 68 = .ok (.ishr, 1) := by decide +kernel
set_option maxRecDepth 20000 in
theorem dX8_turn_69 : decode cX8_turn 69 = .ok (.iconst 1, 1) := by decide +kernel
set_option maxRecDepth 20000 in
theorem dX8_turn_70 : decode cX8_turn 70 = .ok (.iand, 1) := by decide +kernel
set_option maxRecDepth 20000 in
theorem dX8_turn_71 : decode cX8_turn 71 = .ok (.ifCond .ne 7, 3) := by decide +kernel
set_option maxRecDepth 20000 in
theorem dX8_turn_74 : decode cX8_turn 74 = .ok (.iconst 1, 1) := by decide +kernel
set_option maxRecDepth 20000 in
theorem dX8_turn_75 : decode cX8_turn 75 = .ok (.goto 4, 3) := by decide +kernel
set_option maxRecDepth 20000 in
theorem dX8_turn_78 : decode cX8_turn 78 = .ok (.iconst 0, 1) := by decide +kernel
set_option maxRecDepth 20000 in
theorem dX8_turn_79 : decode cX8_turn 79 = .ok (.istore 4, 2) := by decide +kernel
set_option maxRecDepth 20000 in
theorem dX8_turn_81 : decode cX8_turn 81 = .ok (.iload_n 3, 1) := by decide +kernel
set_option maxRecDepth 20000 in
theorem dX8_turn_82 : decode cX8_turn 82 = .ok (.iconst 1, 1) := by decide +kernel
set_option maxRecDepth 20000 in
theorem dX8_turn_83 : decode cX8_turn 83 = .ok (.iload 7, 2) := by decide +kernel
set_option maxRecDepth 20000 in
theorem dX8_turn_85 : decode cX8_turn 85 = .ok (.ishl, 1) := by decide +kernel
set_option maxRecDepth 20000 in
theorem dX8_turn_86 : decode cX8_turn 86 = .ok (.ior, 1) := by decide +kernel
set_option maxRecDepth 20000 in
theorem dX8_turn_87 : decode cX8_turn 87 = .ok (.istore_n 3, 1) := by decide +kernel
set_option maxRecDepth 20000 in
theorem dX8_turn_88 : decode cX8_turn 88 = .ok (.lconst 1, 1) := by decide +kernel
set_option maxRecDepth 20000 in
theorem dX8_turn_89 : decode cX8_turn 89 = .ok (.lstore 8, 2) := by decide +kernel
set_option maxRecDepth 20000 in
theorem dX8_turn_91 : decode cX8_turn 91 = .ok (.aload_n 0, 1) := by decide +kernel
set_option maxRecDepth 20000 in
theorem dX8_turn_92 : decode cX8_turn 92 = .ok (.getfield 89, 3) := by decide +kernel
set_option maxRecDepth 20000 in
theorem dX8_turn_95 : decode cX8_turn 95 = .ok (.iconst 1, 1) := by decide +kernel
set_option maxRecDepth 20000 in
theorem dX8_turn_96 : decode cX8_turn 96 = .ok (.isub, 1) := by decide +kernel
set_option maxRecDepth 20000 in
theorem dX8_turn_97 : decode cX8_turn 97 = .ok (.istore 10, 2) := by decide +kernel
set_option maxRecDepth 20000 in
theorem dX8_turn_99 : decode cX8_turn 99 = .ok (.iload 10, 2) := by decide +kernel
set_option maxRecDepth 20000 in
theorem dX8_turn_101 : decode cX8_turn 101 = .ok (.iload 6, 2) := by decide +kernel
set_option maxRecDepth 20000 in
theorem dX8_turn_103 : decode cX8_turn 103 = .ok (.if_icmp .le 17, 3) := by decide +kernel
set_option maxRecDepth 20000 in
theorem dX8_turn_106 : decode cX8_turn 106 = .ok (.lload 8, 2) := by decide +kernel
set_option maxRecDepth 20000 in
theorem dX8_turn_108 : decode cX8_turn 108 = .ok (.ldc2_w 202, 3) := by decide +kernel
set_option maxRecDepth 20000 in
theorem dX8_turn_111 : decode cX8_turn 111 = .ok (.lmul, 1) := by decide +kernel
set_option maxRecDepth 20000 in
theorem dX8_turn_112 : decode cX8_turn 112 = .ok (.lstore 8, 2) := by decide +kernel
set_option maxRecDepth 20000 in
theorem dX8_turn_114 : decode cX8_turn 114 = .ok (.iinc 10 (-1), 3) := by decide +kernel
set_option maxRecDepth 20000 in
theorem dX8_turn_117 : decode cX8_turn 117 = .ok (.goto (-18), 3) := by decide +kernel
set_option maxRecDepth 20000 in
theorem dX8_turn_120 : decode cX8_turn 120 = .ok (.iconst 0, 1) := by decide +kernel
set_option maxRecDepth 20000 in
theorem dX8_turn_121 : decode cX8_turn 121 = .ok (.istore 10, 2) := by decide +kernel
set_option maxRecDepth 20000 in
theorem dX8_turn_123 : decode cX8_turn 123 = .ok (.iload 10, 2) := by decide +kernel
set_option maxRecDepth 20000 in
theorem dX8_turn_125 : decode cX8_turn 125 = .ok (.aload_n 0, 1) := by decide +kernel
set_option maxRecDepth 20000 in
theorem dX8_turn_126 : decode cX8_turn 126 = .ok (.getfield 97, 3) := by decide +kernel
set_option maxRecDepth 20000 in
theorem dX8_turn_129 : decode cX8_turn 129 = .ok (.if_icmp .gt 58, 3) := by decide +kernel
set_option maxRecDepth 20000 in
theorem dX8_turn_132 : decode cX8_turn 132 = .ok (.iload 4, 2) := by decide +kernel
set_option maxRecDepth 20000 in
theorem dX8_turn_134 : decode cX8_turn 134 = .ok (.ifCond .eq 53, 3) := by decide +kernel
set_option maxRecDepth 20000 in
theorem dX8_turn_137 : decode cX8_turn 137 = .ok (.aload_n 0, 1) := by decide +kernel
set_option maxRecDepth 20000 in
theorem dX8_turn_138 : decode cX8_turn 138 = .ok (.getfield 30, 3) := by decide +kernel
set_option maxRecDepth 20000 in
theorem dX8_turn_141 : decode cX8_turn 141 = .ok (.bipush 7, 2) := by decide +kernel
set_option maxRecDepth 20000 in
theorem dX8_turn_143 : decode cX8_turn 143 = .ok (.iload 7, 2) := by decide +kernel
set_option maxRecDepth 20000 in
theorem dX8_turn_145 : decode cX8_turn 145 = .ok (.imul, 1) := by decide +kernel
set_option maxRecDepth 20000 in
theorem dX8_turn_146 : decode cX8_turn 146 = .ok (.iload 10, 2) := by decide +kernel
set_option maxRecDepth 20000 in
theorem dX8_turn_148 : decode cX8_turn 148 = .ok (.iadd, 1) := by decide +kernel
set_option maxRecDepth 20000 in
theorem dX8_turn_149 : decode cX8_turn 149 = .ok (.aload_n 0, 1) := by decide +kernel
set_option maxRecDepth 20000 in
theorem dX8_turn_150 : decode cX8_turn 150 = .ok (.iload 7, 2) := by decide +kernel
set_option maxRecDepth 20000 in
theorem dX8_turn_152 : decode cX8_turn 152 = .ok (.iload 10, 2) := by decide +kernel
set_option maxRecDepth 20000 in
theorem dX8_turn_154 : decode cX8_turn 154 = .ok (.invokevirtual 111, 3) := by decide +kernel
set_option maxRecDepth 20000 in
theorem dX8_turn_157 : decode cX8_turn 157 = .ok (.bipush 7, 2) := by decide +kernel
set_option maxRecDepth 20000 in
theorem dX8_turn_159 : decode cX8_turn 159 = .ok (.if_icmp .le 9, 3) := by decide +kernel
set_option maxRecDepth 20000 in
theorem dX8_turn_162 : decode cX8_turn 162 = .ok (.ldc2_w 130, 3) := by decide +kernel
set_option maxRecDepth 20000 in
theorem dX8_turn_165 : decode cX8_turn 165 = .ok (.goto 15, 3) := by decide +kernel
set_option maxRecDepth 20000 in
theorem dX8_turn_168 : decode cX8_turn 168 = .ok (.lload 8, 2) := by decide +kernel
set_option maxRecDepth 20000 in
theorem dX8_turn_170 : decode cX8_turn 170 = .ok (.aload_n 0, 1) := by decide +kernel
set_option maxRecDepth 20000 in
theorem dX8_turn_171 : decode cX8_turn 171 = .ok (.iload 7, 2) := by decide +kernel
set_option maxRecDepth 20000 in
theorem dX8_turn_173 : decode cX8_turn 173 = .ok (.iload 10, 2) := by decide +kernel
set_option maxRecDepth 20000 in
theorem dX8_turn_175 : decode cX8_turn 175 = .ok (.invokevirtual 111, 3) := by decide +kernel
set_option maxRecDepth 20000 in
theorem dX8_turn_178 : decode cX8_turn 178 = .ok (.i2l, 1) := by decide +kernel
set_option maxRecDepth 20000 in
theorem dX8_turn_179 : decode cX8_turn 179 = .ok (.lmul, 1) := by decide +kernel
set_option maxRecDepth 20000 in
theorem dX8_turn_180 : decode cX8_turn 180 = .ok (.lastore, 1) := by decide +kernel
set_option maxRecDepth 20000 in
theorem dX8_turn_181 : decode cX8_turn 181 = .ok (.iinc 10 1, 3) := by decide +kernel
set_option maxRecDepth 20000 in
theorem dX8_turn_184 : decode cX8_turn 184 = .ok (.goto (-61), 3) := by decide +kernel
set_option maxRecDepth 20000 in
theorem dX8_turn_187 : decode cX8_turn 187 = .ok (.iinc 6 (-1), 3) := by decide +kernel
set_option maxRecDepth 20000 in
theorem dX8_turn_190 : decode cX8_turn 190 = .ok (.goto (-158), 3) := by decide +kernel
set_option maxRecDepth 20000 in
theorem dX8_turn_193 : decode cX8_turn 193 = .ok (.iload 4, 2) := by decide +kernel
set_option maxRecDepth 20000 in
theorem dX8_turn_195 : decode cX8_turn 195 = .ok (.ifCond .eq 8, 3) := by decide +kernel
set_option maxRecDepth 20000 in
theorem dX8_turn_198 : decode cX8_turn 198 = .ok (.iload 5, 2) := by decide +kernel
set_option maxRecDepth 20000 in
theorem dX8_turn_200 : decode cX8_turn 200 = .ok (.ifCond .eq 6, 3) := by decide +kernel
set_option maxRecDepth 20000 in
theorem dX8_turn_203 : decode cX8_turn 203 = .ok (.bipush (-2), 2) := by decide +kernel
set_option maxRecDepth 20000 in
theorem dX8_turn_205 : decode cX8_turn 205 = .ok (.ireturn, 1) := by decide +kernel
set_option maxRecDepth 20000 in
theorem dX8_turn_206 : decode cX8_turn 206 = .ok (.aload_n 0, 1) := by decide +kernel
set_option maxRecDepth 20000 in
theorem dX8_turn_207 : decode cX8_turn 207 = .ok (.invokevirtual 144, 3) := by decide +kernel
set_option maxRecDepth 20000 in
theorem dX8_turn_210 : decode cX8_turn 210 = .ok (.pop2, 1) := by decide +kernel
set_option maxRecDepth 20000 in
theorem dX8_turn_211 : decode cX8_turn 211 = .ok (.aload_n 0, 1) := by decide +kernel
set_option maxRecDepth 20000 in
theorem dX8_turn_212 : decode cX8_turn 212 = .ok (.getfield 27, 3) := by decide +kernel
set_option maxRecDepth 20000 in
theorem dX8_turn_215 : decode cX8_turn 215 = .ok (.iload_n 2, 1) := by decide +kernel
set_option maxRecDepth 20000 in
theorem dX8_turn_216 : decode cX8_turn 216 = .ok (.iaload, 1) := by decide +kernel
set_option maxRecDepth 20000 in
theorem dX8_turn_217 : decode cX8_turn 217 = .ok (.iconst 1, 1) := by decide +kernel
set_option maxRecDepth 20000 in
theorem dX8_turn_218 : decode cX8_turn 218 = .ok (.isub, 1) := by decide +kernel
set_option maxRecDepth 20000 in
theorem dX8_turn_219 : decode cX8_turn 219 = .ok (.ireturn, 1) := by decide +kernel
def f_X8_turn_193 (N : Nat) (c_askers : Int32) (c_places : Int32) (c_seats : Nat → Int32) (c_wish : Nat → Int32) (c_full : Int32) (c_cost : Nat → Int64) (c_found : Nat → Int32) (c_least : Nat → Int64) (c_weight : Nat → Int32) (v2 : Int32) (v4 : Int32) (v5 : Int32) : Option (Int32 × Int32 × (Nat → Int64) × (Nat → Int32) × (Nat → Int64) × (Nat → Int32)) :=
    (if v4 = 0 then
      some ((-2 : Int32), c_full, c_cost, c_found, c_least, c_weight)
    else
      (if v5 = 0 then
        (f_X8_findLeast N c_askers c_places c_cost c_seats c_wish c_full c_found c_least c_weight).bind fun (r3, o4, o5, o6, o7) =>
        (rdI 8 o5 v2).bind fun t9 =>
        some (t9 - 1, o4, c_cost, o5, o6, o7)
      else
        some ((-2 : Int32), c_full, c_cost, c_found, c_least, c_weight)))
set_option maxHeartbeats 4000000 in
set_option maxRecDepth 100000 in
theorem g_X8_turn_193 {κ : KC} {ω : KW} {A : Nat → Prop} {ad : Nat → Nat} {u_above : Int64} {u_below : Int64} {u_firsts : Int32} {u_freed : Int32} {u_whole : Int64} {N : Nat} {c_askers : Int32} {c_places : Int32} {c_seats : Nat → Int32} {c_wish : Nat → Int32}  {res : Int32 × Int32 × (Nat → Int64) × (Nat → Int32) × (Nat → Int64) × (Nat → Int32)} {c_full : Int32} {c_cost : Nat → Int64} {c_found : Nat → Int32} {c_least : Nat → Int64} {c_weight : Nat → Int32} {v2 : Int32} {v4 : Int32} {v5 : Int32} (hf : f_X8_turn_193 N c_askers c_places c_seats c_wish c_full c_cost c_found c_least c_weight v2 v4 v5 = some res) : GG mu_X8_turn κ ω A (QR κ ω A ad (some (.int res.1)) (w_X8_turn c_askers c_places res.2.1 res.2.2.1 res.2.2.2.1 res.2.2.2.2.1 c_seats res.2.2.2.2.2 c_wish u_above u_below u_firsts u_freed u_whole)) ad 0 0 193 (w_X8_turn c_askers c_places c_full c_cost c_found c_least c_seats c_weight c_wish u_above u_below u_firsts u_freed u_whole) [some (.ref 0), none, some (.int v2), none, some (.int v4), some (.int v5), none, none, none, none, none] [] := by
  refine G_iload dX8_turn_193 rfl ?_
  refine G_if_eq 203 dX8_turn_195 (by decide) (fun h1 => ?_) (fun h1 => ?_)
  · replace hf := ob_t h1 hf
    refine G_bipush (-2 : Int32) dX8_turn_203 (by decide) ?_
    obtain rfl := os hf
    exact G_ireturn dX8_turn_205 rfl
  · replace hf := ob_f h1 hf
    refine G_iload dX8_turn_198 rfl ?_
    refine G_if_eq 206 dX8_turn_200 (by decide) (fun h2 => ?_) (fun h2 => ?_)
    · replace hf := ob_t h2 hf
      refine G_aload_n dX8_turn_206 rfl rfl ?_
      obtain ⟨⟨r3, o4, o5, o6, o7⟩, hc8, hf⟩ := ob hf
      refine G_callV (μ2 := mu_X8_findLeast) (As := []) (w2 := (w_X8_turn c_askers c_places o4 c_cost o5 o6 c_seats o7 c_wish u_above u_below u_firsts u_freed u_whole)) (wc := (w_X8_findLeast c_askers c_places c_full c_cost c_found c_least c_seats c_weight c_wish u_above u_below u_firsts u_freed u_whole)) (wc2 := (w_X8_findLeast c_askers c_places o4 c_cost o5 o6 c_seats o7 c_wish u_above u_below u_firsts u_freed u_whole)) (rest := []) (rv := [.long r3]) [0, 1, 2, 3, 4, 5, 6] [1000, 1001, 1002, 1003, 1004, 1005, 1006, 1007, 1008, 1009, 1010, 1011, 1012, 1013, 1014] [] [0, 1, 2, 3, 4, 5, 6] (c_X8_findLeast hc8) cw_X8_findLeast m_X8_144 dX8_turn_207 rfl ⟨leb rfl, leb rfl⟩ ⟨rfl, rfl⟩ rfl ⟨_, rfl, rfl⟩ (Fit.mk rfl rfl rfl) rfl (leb rfl) (ROsub.nil rfl rfl) rfl ?_
      change GG _ _ _ _ _ _ _ _ _ (w_X8_turn c_askers c_places o4 c_cost o5 o6 c_seats o7 c_wish u_above u_below u_firsts u_freed u_whole) [some (.ref 0), none, some (.int v2), none, some (.int v4), some (.int v5), none, none, none, none, none] [.long r3]
      refine G_pop2 dX8_turn_210 rfl ?_
      refine G_aload_n dX8_turn_211 rfl rfl ?_
      refine G_get (v := .ref 2) F_X8_27 dX8_turn_212 rfl rfl ?_
      refine G_iload_n dX8_turn_215 rfl rfl ?_
      obtain ⟨t9, ht9, hf⟩ := ob hf
      refine G_iald dX8_turn_216 rfl ht9 ?_
      refine G_iconst 1 dX8_turn_217 (by decide) ?_
      refine G_isub dX8_turn_218 ?_
      obtain rfl := os hf
      exact G_ireturn dX8_turn_219 rfl
    · replace hf := ob_f h2 hf
      refine G_bipush (-2 : Int32) dX8_turn_203 (by decide) ?_
      obtain rfl := os hf
      exact G_ireturn dX8_turn_205 rfl
def f_X8_turn_180 (N : Nat) (c_askers : Int32) (c_places : Int32) (c_seats : Nat → Int32) (c_wish : Nat → Int32) (k123 : Int32 → (Nat → Int64) → (Nat → Int32) → (Nat → Int64) → (Nat → Int32) → Int32 → Int32 → Int32 → Int32 → Int32 → Int32 → Int64 → Int32 → Option (Int32 × Int32 × (Nat → Int64) × (Nat → Int32) × (Nat → Int64) × (Nat → Int32))) (c_full : Int32) (c_cost : Nat → Int64) (c_found : Nat → Int32) (c_least : Nat → Int64) (c_weight : Nat → Int32) (v2 : Int32) (v3 : Int32) (v4 : Int32) (v5 : Int32) (v6 : Int32) (v7 : Int32) (v8 : Int64) (v10 : Int32) (s1 : Int32) (s2 : Int64) : Option (Int32 × Int32 × (Nat → Int64) × (Nat → Int32) × (Nat → Int64) × (Nat → Int32)) :=
    (wrL 56 c_cost s1 s2).bind fun t1 =>
    k123 c_full t1 c_found c_least c_weight v2 v3 v4 v5 v6 v7 v8 (v10 + 1)
set_option maxHeartbeats 4000000 in
set_option maxRecDepth 100000 in
theorem g_X8_turn_180 {κ : KC} {ω : KW} {A : Nat → Prop} {ad : Nat → Nat} {u_above : Int64} {u_below : Int64} {u_firsts : Int32} {u_freed : Int32} {u_whole : Int64} {N : Nat} {c_askers : Int32} {c_places : Int32} {c_seats : Nat → Int32} {c_wish : Nat → Int32}  {k123 : Int32 → (Nat → Int64) → (Nat → Int32) → (Nat → Int64) → (Nat → Int32) → Int32 → Int32 → Int32 → Int32 → Int32 → Int32 → Int64 → Int32 → Option (Int32 × Int32 × (Nat → Int64) × (Nat → Int32) × (Nat → Int64) × (Nat → Int32))} {res : Int32 × Int32 × (Nat → Int64) × (Nat → Int32) × (Nat → Int64) × (Nat → Int32)} (hk123 : ∀ {c_full : Int32} {c_cost : Nat → Int64} {c_found : Nat → Int32} {c_least : Nat → Int64} {c_weight : Nat → Int32} {v2 : Int32} {v3 : Int32} {v4 : Int32} {v5 : Int32} {v6 : Int32} {v7 : Int32} {v8 : Int64} {v10 : Int32}, k123 c_full c_cost c_found c_least c_weight v2 v3 v4 v5 v6 v7 v8 v10 = some res → GG mu_X8_turn κ ω A (QR κ ω A ad (some (.int res.1)) (w_X8_turn c_askers c_places res.2.1 res.2.2.1 res.2.2.2.1 res.2.2.2.2.1 c_seats res.2.2.2.2.2 c_wish u_above u_below u_firsts u_freed u_whole)) ad 0 0 123 (w_X8_turn c_askers c_places c_full c_cost c_found c_least c_seats c_weight c_wish u_above u_below u_firsts u_freed u_whole) [some (.ref 0), none, some (.int v2), some (.int v3), some (.int v4), some (.int v5), some (.int v6), some (.int v7), some (.long v8), none, some (.int v10)] []) {c_full : Int32} {c_cost : Nat → Int64} {c_found : Nat → Int32} {c_least : Nat → Int64} {c_weight : Nat → Int32} {v2 : Int32} {v3 : Int32} {v4 : Int32} {v5 : Int32} {v6 : Int32} {v7 : Int32} {v8 : Int64} {v10 : Int32} {s1 : Int32} {s2 : Int64} (hf : f_X8_turn_180 N c_askers c_places c_seats c_wish k123 c_full c_cost c_found c_least c_weight v2 v3 v4 v5 v6 v7 v8 v10 s1 s2 = some res) : GG mu_X8_turn κ ω A (QR κ ω A ad (some (.int res.1)) (w_X8_turn c_askers c_places res.2.1 res.2.2.1 res.2.2.2.1 res.2.2.2.2.1 c_seats res.2.2.2.2.2 c_wish u_above u_below u_firsts u_freed u_whole)) ad 0 0 180 (w_X8_turn c_askers c_places c_full c_cost c_found c_least c_seats c_weight c_wish u_above u_below u_firsts u_freed u_whole) [some (.ref 0), none, some (.int v2), some (.int v3), some (.int v4), some (.int v5), some (.int v6), some (.int v7), some (.long v8), none, some (.int v10)] [.long s2, .int s1, .ref 1] := by
  obtain ⟨t1, ht1, hf⟩ := ob hf
  refine G_last (w2 := (w_X8_turn c_askers c_places c_full t1 c_found c_least c_seats c_weight c_wish u_above u_below u_firsts u_freed u_whole)) dX8_turn_180 rfl ht1 rfl ?_
  refine G_iinc 1 dX8_turn_181 (by decide) rfl (ltb rfl) ?_
  change GG _ _ _ _ _ _ _ _ _ _ [some (.ref 0), none, some (.int v2), some (.int v3), some (.int v4), some (.int v5), some (.int v6), some (.int v7), some (.long v8), none, some (.int (v10 + 1))] _
  refine G_goto 123 dX8_turn_184 (by decide) ?_
  exact hk123 hf
def f_X8_turn_123 (N : Nat) (c_askers : Int32) (c_places : Int32) (c_seats : Nat → Int32) (c_wish : Nat → Int32) (k32 : Int32 → (Nat → Int64) → (Nat → Int32) → (Nat → Int64) → (Nat → Int32) → Int32 → Int32 → Int32 → Int32 → Int32 → Option (Int32 × Int32 × (Nat → Int64) × (Nat → Int32) × (Nat → Int64) × (Nat → Int32))) : Nat → Int32 → (Nat → Int64) → (Nat → Int32) → (Nat → Int64) → (Nat → Int32) → Int32 → Int32 → Int32 → Int32 → Int32 → Int32 → Int64 → Int32 → Option (Int32 × Int32 × (Nat → Int64) × (Nat → Int32) × (Nat → Int64) × (Nat → Int32))
  | 0, _, _, _, _, _, _, _, _, _, _, _, _, _ => none
  | n + 1, c_full, c_cost, c_found, c_least, c_weight, v2, v3, v4, v5, v6, v7, v8, v10 =>
    (if c_places < v10 then
      k32 c_full c_cost c_found c_least c_weight v2 v3 v4 v5 (v6 + (-1))
    else
      (if v4 = 0 then
        k32 c_full c_cost c_found c_least c_weight v2 v3 v4 v5 (v6 + (-1))
      else
        (f_X8_worthOf N c_wish v7 v10).bind fun r3 =>
        (if r3 ≤ 7 then
          (f_X8_worthOf N c_wish v7 v10).bind fun r6 =>
          f_X8_turn_180 N c_askers c_places c_seats c_wish (f_X8_turn_123 N c_askers c_places c_seats c_wish k32 n) c_full c_cost c_found c_least c_weight v2 v3 v4 v5 v6 v7 v8 v10 ((7 * v7) + v10) (v8 * r6.toInt64)
        else
          f_X8_turn_180 N c_askers c_places c_seats c_wish (f_X8_turn_123 N c_askers c_places c_seats c_wish k32 n) c_full c_cost c_found c_least c_weight v2 v3 v4 v5 v6 v7 v8 v10 ((7 * v7) + v10) 1000000000000000000)))
set_option maxHeartbeats 4000000 in
set_option maxRecDepth 100000 in
theorem g_X8_turn_123 {κ : KC} {ω : KW} {A : Nat → Prop} {ad : Nat → Nat} {u_above : Int64} {u_below : Int64} {u_firsts : Int32} {u_freed : Int32} {u_whole : Int64} {N : Nat} {c_askers : Int32} {c_places : Int32} {c_seats : Nat → Int32} {c_wish : Nat → Int32}  {k32 : Int32 → (Nat → Int64) → (Nat → Int32) → (Nat → Int64) → (Nat → Int32) → Int32 → Int32 → Int32 → Int32 → Int32 → Option (Int32 × Int32 × (Nat → Int64) × (Nat → Int32) × (Nat → Int64) × (Nat → Int32))} {res : Int32 × Int32 × (Nat → Int64) × (Nat → Int32) × (Nat → Int64) × (Nat → Int32)} (hk32 : ∀ {c_full : Int32} {c_cost : Nat → Int64} {c_found : Nat → Int32} {c_least : Nat → Int64} {c_weight : Nat → Int32} {v2 : Int32} {v3 : Int32} {v4 : Int32} {v5 : Int32} {v6 : Int32}, k32 c_full c_cost c_found c_least c_weight v2 v3 v4 v5 v6 = some res → GG mu_X8_turn κ ω A (QR κ ω A ad (some (.int res.1)) (w_X8_turn c_askers c_places res.2.1 res.2.2.1 res.2.2.2.1 res.2.2.2.2.1 c_seats res.2.2.2.2.2 c_wish u_above u_below u_firsts u_freed u_whole)) ad 0 0 32 (w_X8_turn c_askers c_places c_full c_cost c_found c_least c_seats c_weight c_wish u_above u_below u_firsts u_freed u_whole) [some (.ref 0), none, some (.int v2), some (.int v3), some (.int v4), some (.int v5), some (.int v6), none, none, none, none] []) : ∀ (n : Nat) {c_full : Int32} {c_cost : Nat → Int64} {c_found : Nat → Int32} {c_least : Nat → Int64} {c_weight : Nat → Int32} {v2 : Int32} {v3 : Int32} {v4 : Int32} {v5 : Int32} {v6 : Int32} {v7 : Int32} {v8 : Int64} {v10 : Int32}, f_X8_turn_123 N c_askers c_places c_seats c_wish k32 n c_full c_cost c_found c_least c_weight v2 v3 v4 v5 v6 v7 v8 v10 = some res → GG mu_X8_turn κ ω A (QR κ ω A ad (some (.int res.1)) (w_X8_turn c_askers c_places res.2.1 res.2.2.1 res.2.2.2.1 res.2.2.2.2.1 c_seats res.2.2.2.2.2 c_wish u_above u_below u_firsts u_freed u_whole)) ad 0 0 123 (w_X8_turn c_askers c_places c_full c_cost c_found c_least c_seats c_weight c_wish u_above u_below u_firsts u_freed u_whole) [some (.ref 0), none, some (.int v2), some (.int v3), some (.int v4), some (.int v5), some (.int v6), some (.int v7), some (.long v8), none, some (.int v10)] [] := by
  intro n
  induction n with
  | zero => intro c_full c_cost c_found c_least c_weight v2 v3 v4 v5 v6 v7 v8 v10 hf; exact ob_0 hf
  | succ n ih =>
    intro c_full c_cost c_found c_least c_weight v2 v3 v4 v5 v6 v7 v8 v10 hf
    refine G_iload dX8_turn_123 rfl ?_
    refine G_aload_n dX8_turn_125 rfl rfl ?_
    refine G_get (v := .int c_places) F_X8_97 dX8_turn_126 rfl rfl ?_
    refine G_icmp_gt 187 dX8_turn_129 (by decide) (fun h1 => ?_) (fun h1 => ?_)
    · replace hf := ob_t h1 hf
      refine G_iinc (-1) dX8_turn_187 (by decide) rfl (ltb rfl) ?_
      change GG _ _ _ _ _ _ _ _ _ _ [some (.ref 0), none, some (.int v2), some (.int v3), some (.int v4), some (.int v5), some (.int (v6 + (-1))), some (.int v7), some (.long v8), none, some (.int v10)] _
      refine G_goto 32 dX8_turn_190 (by decide) ?_
      refine GG.sb (lv2 := [some (.ref 0), none, some (.int v2), some (.int v3), some (.int v4), some (.int v5), some (.int (v6 + (-1))), none, none, none, none]) ?_ (lvS_v rfl (lvS_n (lvS_v rfl (lvS_v rfl (lvS_v rfl (lvS_v rfl (lvS_v rfl (lvS_n (lvS_n (lvS_n (lvS_n (lvS_e))))))))))))
      exact hk32 hf
    · replace hf := ob_f h1 hf
      refine G_iload dX8_turn_132 rfl ?_
      refine G_if_eq 187 dX8_turn_134 (by decide) (fun h2 => ?_) (fun h2 => ?_)
      · replace hf := ob_t h2 hf
        refine G_iinc (-1) dX8_turn_187 (by decide) rfl (ltb rfl) ?_
        change GG _ _ _ _ _ _ _ _ _ _ [some (.ref 0), none, some (.int v2), some (.int v3), some (.int v4), some (.int v5), some (.int (v6 + (-1))), some (.int v7), some (.long v8), none, some (.int v10)] _
        refine G_goto 32 dX8_turn_190 (by decide) ?_
        refine GG.sb (lv2 := [some (.ref 0), none, some (.int v2), some (.int v3), some (.int v4), some (.int v5), some (.int (v6 + (-1))), none, none, none, none]) ?_ (lvS_v rfl (lvS_n (lvS_v rfl (lvS_v rfl (lvS_v rfl (lvS_v rfl (lvS_v rfl (lvS_n (lvS_n (lvS_n (lvS_n (lvS_e))))))))))))
        exact hk32 hf
      · replace hf := ob_f h2 hf
        refine G_aload_n dX8_turn_137 rfl rfl ?_
        refine G_get (v := .ref 1) F_X8_30 dX8_turn_138 rfl rfl ?_
        refine G_bipush 7 dX8_turn_141 (by decide) ?_
        refine G_iload dX8_turn_143 rfl ?_
        refine G_imul dX8_turn_145 ?_
        refine G_iload dX8_turn_146 rfl ?_
        refine G_iadd dX8_turn_148 ?_
        refine G_aload_n dX8_turn_149 rfl rfl ?_
        refine G_iload dX8_turn_150 rfl ?_
        refine G_iload dX8_turn_152 rfl ?_
        obtain ⟨r3, hc4, hf⟩ := ob hf
        refine G_callV (μ2 := mu_X8_worthOf) (As := [.int v7, .int v10]) (w2 := (w_X8_turn c_askers c_places c_full c_cost c_found c_least c_seats c_weight c_wish u_above u_below u_firsts u_freed u_whole)) (wc := (w_X8_worthOf c_wish c_askers c_places u_above u_below c_full u_firsts u_freed u_whole)) (wc2 := (w_X8_worthOf c_wish c_askers c_places u_above u_below c_full u_firsts u_freed u_whole)) (rest := [.int ((7 * v7) + v10), .ref 1]) (rv := [.int r3]) [0, 6] [4, 1000, 5, 1001, 2, 1, 3, 1002, 1003, 1004, 1005, 1006, 1007, 1008, 1009, 1010, 1011, 1012, 1013, 1014] [1, 2, 3, 4, 5] [5, 0, 1, 2, 3, 4, 6] (c_X8_worthOf hc4) cw_X8_worthOf m_X8_111 dX8_turn_154 rfl ⟨leb rfl, leb rfl⟩ ⟨rfl, rfl⟩ rfl ⟨_, rfl, rfl⟩ (Fit.mk rfl rfl rfl) rfl (leb rfl) (ROsub.nil rfl rfl) rfl ?_
        change GG _ _ _ _ _ _ _ _ _ (w_X8_turn c_askers c_places c_full c_cost c_found c_least c_seats c_weight c_wish u_above u_below u_firsts u_freed u_whole) [some (.ref 0), none, some (.int v2), some (.int v3), some (.int v4), some (.int v5), some (.int v6), some (.int v7), some (.long v8), none, some (.int v10)] [.int r3, .int ((7 * v7) + v10), .ref 1]
        refine G_bipush 7 dX8_turn_157 (by decide) ?_
        refine G_icmp_le 168 dX8_turn_159 (by decide) (fun h5 => ?_) (fun h5 => ?_)
        · replace hf := ob_t h5 hf
          refine G_lload dX8_turn_168 rfl ?_
          refine G_aload_n dX8_turn_170 rfl rfl ?_
          refine G_iload dX8_turn_171 rfl ?_
          refine G_iload dX8_turn_173 rfl ?_
          obtain ⟨r6, hc7, hf⟩ := ob hf
          refine G_callV (μ2 := mu_X8_worthOf) (As := [.int v7, .int v10]) (w2 := (w_X8_turn c_askers c_places c_full c_cost c_found c_least c_seats c_weight c_wish u_above u_below u_firsts u_freed u_whole)) (wc := (w_X8_worthOf c_wish c_askers c_places u_above u_below c_full u_firsts u_freed u_whole)) (wc2 := (w_X8_worthOf c_wish c_askers c_places u_above u_below c_full u_firsts u_freed u_whole)) (rest := [.long v8, .int ((7 * v7) + v10), .ref 1]) (rv := [.int r6]) [0, 6] [4, 1000, 5, 1001, 2, 1, 3, 1002, 1003, 1004, 1005, 1006, 1007, 1008, 1009, 1010, 1011, 1012, 1013, 1014] [1, 2, 3, 4, 5] [5, 0, 1, 2, 3, 4, 6] (c_X8_worthOf hc7) cw_X8_worthOf m_X8_111 dX8_turn_175 rfl ⟨leb rfl, leb rfl⟩ ⟨rfl, rfl⟩ rfl ⟨_, rfl, rfl⟩ (Fit.mk rfl rfl rfl) rfl (leb rfl) (ROsub.nil rfl rfl) rfl ?_
          change GG _ _ _ _ _ _ _ _ _ (w_X8_turn c_askers c_places c_full c_cost c_found c_least c_seats c_weight c_wish u_above u_below u_firsts u_freed u_whole) [some (.ref 0), none, some (.int v2), some (.int v3), some (.int v4), some (.int v5), some (.int v6), some (.int v7), some (.long v8), none, some (.int v10)] [.int r6, .long v8, .int ((7 * v7) + v10), .ref 1]
          refine G_i2l dX8_turn_178 ?_
          refine G_lmul dX8_turn_179 ?_
          exact g_X8_turn_180 ih hf
        · replace hf := ob_f h5 hf
          refine G_ldc2 (v := 1000000000000000000) dX8_turn_162 k_X8_130 ?_
          refine G_goto 180 dX8_turn_165 (by decide) ?_
          exact g_X8_turn_180 ih hf
def f_X8_turn_99 (N : Nat) (c_askers : Int32) (c_places : Int32) (c_seats : Nat → Int32) (c_wish : Nat → Int32) (k32 : Int32 → (Nat → Int64) → (Nat → Int32) → (Nat → Int64) → (Nat → Int32) → Int32 → Int32 → Int32 → Int32 → Int32 → Option (Int32 × Int32 × (Nat → Int64) × (Nat → Int32) × (Nat → Int64) × (Nat → Int32))) : Nat → Int32 → (Nat → Int64) → (Nat → Int32) → (Nat → Int64) → (Nat → Int32) → Int32 → Int32 → Int32 → Int32 → Int32 → Int32 → Int64 → Int32 → Option (Int32 × Int32 × (Nat → Int64) × (Nat → Int32) × (Nat → Int64) × (Nat → Int32))
  | 0, _, _, _, _, _, _, _, _, _, _, _, _, _ => none
  | n + 1, c_full, c_cost, c_found, c_least, c_weight, v2, v3, v4, v5, v6, v7, v8, v10 =>
    (if v10 ≤ v6 then
      f_X8_turn_123 N c_askers c_places c_seats c_wish k32 N c_full c_cost c_found c_least c_weight v2 v3 v4 v5 v6 v7 v8 0
    else
      f_X8_turn_99 N c_askers c_places c_seats c_wish k32 n c_full c_cost c_found c_least c_weight v2 v3 v4 v5 v6 v7 (v8 * 8) (v10 + (-1)))
set_option maxHeartbeats 4000000 in
set_option maxRecDepth 100000 in
theorem g_X8_turn_99 {κ : KC} {ω : KW} {A : Nat → Prop} {ad : Nat → Nat} {u_above : Int64} {u_below : Int64} {u_firsts : Int32} {u_freed : Int32} {u_whole : Int64} {N : Nat} {c_askers : Int32} {c_places : Int32} {c_seats : Nat → Int32} {c_wish : Nat → Int32}  {k32 : Int32 → (Nat → Int64) → (Nat → Int32) → (Nat → Int64) → (Nat → Int32) → Int32 → Int32 → Int32 → Int32 → Int32 → Option (Int32 × Int32 × (Nat → Int64) × (Nat → Int32) × (Nat → Int64) × (Nat → Int32))} {res : Int32 × Int32 × (Nat → Int64) × (Nat → Int32) × (Nat → Int64) × (Nat → Int32)} (hk32 : ∀ {c_full : Int32} {c_cost : Nat → Int64} {c_found : Nat → Int32} {c_least : Nat → Int64} {c_weight : Nat → Int32} {v2 : Int32} {v3 : Int32} {v4 : Int32} {v5 : Int32} {v6 : Int32}, k32 c_full c_cost c_found c_least c_weight v2 v3 v4 v5 v6 = some res → GG mu_X8_turn κ ω A (QR κ ω A ad (some (.int res.1)) (w_X8_turn c_askers c_places res.2.1 res.2.2.1 res.2.2.2.1 res.2.2.2.2.1 c_seats res.2.2.2.2.2 c_wish u_above u_below u_firsts u_freed u_whole)) ad 0 0 32 (w_X8_turn c_askers c_places c_full c_cost c_found c_least c_seats c_weight c_wish u_above u_below u_firsts u_freed u_whole) [some (.ref 0), none, some (.int v2), some (.int v3), some (.int v4), some (.int v5), some (.int v6), none, none, none, none] []) : ∀ (n : Nat) {c_full : Int32} {c_cost : Nat → Int64} {c_found : Nat → Int32} {c_least : Nat → Int64} {c_weight : Nat → Int32} {v2 : Int32} {v3 : Int32} {v4 : Int32} {v5 : Int32} {v6 : Int32} {v7 : Int32} {v8 : Int64} {v10 : Int32}, f_X8_turn_99 N c_askers c_places c_seats c_wish k32 n c_full c_cost c_found c_least c_weight v2 v3 v4 v5 v6 v7 v8 v10 = some res → GG mu_X8_turn κ ω A (QR κ ω A ad (some (.int res.1)) (w_X8_turn c_askers c_places res.2.1 res.2.2.1 res.2.2.2.1 res.2.2.2.2.1 c_seats res.2.2.2.2.2 c_wish u_above u_below u_firsts u_freed u_whole)) ad 0 0 99 (w_X8_turn c_askers c_places c_full c_cost c_found c_least c_seats c_weight c_wish u_above u_below u_firsts u_freed u_whole) [some (.ref 0), none, some (.int v2), some (.int v3), some (.int v4), some (.int v5), some (.int v6), some (.int v7), some (.long v8), none, some (.int v10)] [] := by
  intro n
  induction n with
  | zero => intro c_full c_cost c_found c_least c_weight v2 v3 v4 v5 v6 v7 v8 v10 hf; exact ob_0 hf
  | succ n ih =>
    intro c_full c_cost c_found c_least c_weight v2 v3 v4 v5 v6 v7 v8 v10 hf
    refine G_iload dX8_turn_99 rfl ?_
    refine G_iload dX8_turn_101 rfl ?_
    refine G_icmp_le 120 dX8_turn_103 (by decide) (fun h1 => ?_) (fun h1 => ?_)
    · replace hf := ob_t h1 hf
      refine G_iconst 0 dX8_turn_120 (by decide) ?_
      refine G_istore dX8_turn_121 (ltb rfl) ?_
      change GG _ _ _ _ _ _ _ _ _ _ [some (.ref 0), none, some (.int v2), some (.int v3), some (.int v4), some (.int v5), some (.int v6), some (.int v7), some (.long v8), none, some (.int 0)] _
      exact g_X8_turn_123 hk32 N hf
    · replace hf := ob_f h1 hf
      refine G_lload dX8_turn_106 rfl ?_
      refine G_ldc2 (v := 8) dX8_turn_108 k_X8_202 ?_
      refine G_lmul dX8_turn_111 ?_
      refine G_lstore dX8_turn_112 (ltb rfl) ?_
      change GG _ _ _ _ _ _ _ _ _ _ [some (.ref 0), none, some (.int v2), some (.int v3), some (.int v4), some (.int v5), some (.int v6), some (.int v7), some (.long (v8 * 8)), none, some (.int v10)] _
      refine G_iinc (-1) dX8_turn_114 (by decide) rfl (ltb rfl) ?_
      change GG _ _ _ _ _ _ _ _ _ _ [some (.ref 0), none, some (.int v2), some (.int v3), some (.int v4), some (.int v5), some (.int v6), some (.int v7), some (.long (v8 * 8)), none, some (.int (v10 + (-1)))] _
      refine G_goto 99 dX8_turn_117 (by decide) ?_
      exact ih hf
def f_X8_turn_79 (N : Nat) (c_askers : Int32) (c_places : Int32) (c_seats : Nat → Int32) (c_wish : Nat → Int32) (k32 : Int32 → (Nat → Int64) → (Nat → Int32) → (Nat → Int64) → (Nat → Int32) → Int32 → Int32 → Int32 → Int32 → Int32 → Option (Int32 × Int32 × (Nat → Int64) × (Nat → Int32) × (Nat → Int64) × (Nat → Int32))) (c_full : Int32) (c_cost : Nat → Int64) (c_found : Nat → Int32) (c_least : Nat → Int64) (c_weight : Nat → Int32) (v2 : Int32) (v3 : Int32) (v5 : Int32) (v6 : Int32) (v7 : Int32) (s0 : Int32) : Option (Int32 × Int32 × (Nat → Int64) × (Nat → Int32) × (Nat → Int64) × (Nat → Int32)) :=
    f_X8_turn_99 N c_askers c_places c_seats c_wish k32 N c_full c_cost c_found c_least c_weight v2 (v3 ||| ((1 : Int32) <<< (v7 &&& 31))) s0 v5 v6 v7 1 (c_askers - 1)
set_option maxHeartbeats 4000000 in
set_option maxRecDepth 100000 in
theorem g_X8_turn_79 {κ : KC} {ω : KW} {A : Nat → Prop} {ad : Nat → Nat} {u_above : Int64} {u_below : Int64} {u_firsts : Int32} {u_freed : Int32} {u_whole : Int64} {N : Nat} {c_askers : Int32} {c_places : Int32} {c_seats : Nat → Int32} {c_wish : Nat → Int32}  {k32 : Int32 → (Nat → Int64) → (Nat → Int32) → (Nat → Int64) → (Nat → Int32) → Int32 → Int32 → Int32 → Int32 → Int32 → Option (Int32 × Int32 × (Nat → Int64) × (Nat → Int32) × (Nat → Int64) × (Nat → Int32))} {res : Int32 × Int32 × (Nat → Int64) × (Nat → Int32) × (Nat → Int64) × (Nat → Int32)} (hk32 : ∀ {c_full : Int32} {c_cost : Nat → Int64} {c_found : Nat → Int32} {c_least : Nat → Int64} {c_weight : Nat → Int32} {v2 : Int32} {v3 : Int32} {v4 : Int32} {v5 : Int32} {v6 : Int32}, k32 c_full c_cost c_found c_least c_weight v2 v3 v4 v5 v6 = some res → GG mu_X8_turn κ ω A (QR κ ω A ad (some (.int res.1)) (w_X8_turn c_askers c_places res.2.1 res.2.2.1 res.2.2.2.1 res.2.2.2.2.1 c_seats res.2.2.2.2.2 c_wish u_above u_below u_firsts u_freed u_whole)) ad 0 0 32 (w_X8_turn c_askers c_places c_full c_cost c_found c_least c_seats c_weight c_wish u_above u_below u_firsts u_freed u_whole) [some (.ref 0), none, some (.int v2), some (.int v3), some (.int v4), some (.int v5), some (.int v6), none, none, none, none] []) {c_full : Int32} {c_cost : Nat → Int64} {c_found : Nat → Int32} {c_least : Nat → Int64} {c_weight : Nat → Int32} {v2 : Int32} {v3 : Int32} {v5 : Int32} {v6 : Int32} {v7 : Int32} {s0 : Int32} (hf : f_X8_turn_79 N c_askers c_places c_seats c_wish k32 c_full c_cost c_found c_least c_weight v2 v3 v5 v6 v7 s0 = some res) : GG mu_X8_turn κ ω A (QR κ ω A ad (some (.int res.1)) (w_X8_turn c_askers c_places res.2.1 res.2.2.1 res.2.2.2.1 res.2.2.2.2.1 c_seats res.2.2.2.2.2 c_wish u_above u_below u_firsts u_freed u_whole)) ad 0 0 79 (w_X8_turn c_askers c_places c_full c_cost c_found c_least c_seats c_weight c_wish u_above u_below u_firsts u_freed u_whole) [some (.ref 0), none, some (.int v2), some (.int v3), none, some (.int v5), some (.int v6), some (.int v7), none, none, none] [.int s0] := by
  refine G_istore dX8_turn_79 (ltb rfl) ?_
  change GG _ _ _ _ _ _ _ _ _ _ [some (.ref 0), none, some (.int v2), some (.int v3), some (.int s0), some (.int v5), some (.int v6), some (.int v7), none, none, none] _
  refine G_iload_n dX8_turn_81 rfl rfl ?_
  refine G_iconst 1 dX8_turn_82 (by decide) ?_
  refine G_iload dX8_turn_83 rfl ?_
  refine G_ishl dX8_turn_85 ?_
  refine G_ior dX8_turn_86 ?_
  refine G_istore_n dX8_turn_87 rfl (ltb rfl) ?_
  change GG _ _ _ _ _ _ _ _ _ _ [some (.ref 0), none, some (.int v2), some (.int (v3 ||| ((1 : Int32) <<< (v7 &&& 31)))), some (.int s0), some (.int v5), some (.int v6), some (.int v7), none, none, none] _
  refine G_lconst 1 dX8_turn_88 (by decide) ?_
  refine G_lstore dX8_turn_89 (ltb rfl) ?_
  change GG _ _ _ _ _ _ _ _ _ _ [some (.ref 0), none, some (.int v2), some (.int (v3 ||| ((1 : Int32) <<< (v7 &&& 31)))), some (.int s0), some (.int v5), some (.int v6), some (.int v7), some (.long 1), none, none] _
  refine G_aload_n dX8_turn_91 rfl rfl ?_
  refine G_get (v := .int c_askers) F_X8_89 dX8_turn_92 rfl rfl ?_
  refine G_iconst 1 dX8_turn_95 (by decide) ?_
  refine G_isub dX8_turn_96 ?_
  refine G_istore dX8_turn_97 (ltb rfl) ?_
  change GG _ _ _ _ _ _ _ _ _ _ [some (.ref 0), none, some (.int v2), some (.int (v3 ||| ((1 : Int32) <<< (v7 &&& 31)))), some (.int s0), some (.int v5), some (.int v6), some (.int v7), some (.long 1), none, some (.int (c_askers - 1))] _
  exact g_X8_turn_99 hk32 N hf
def f_X8_turn_78 (N : Nat) (c_askers : Int32) (c_places : Int32) (c_seats : Nat → Int32) (c_wish : Nat → Int32) (k32 : Int32 → (Nat → Int64) → (Nat → Int32) → (Nat → Int64) → (Nat → Int32) → Int32 → Int32 → Int32 → Int32 → Int32 → Option (Int32 × Int32 × (Nat → Int64) × (Nat → Int32) × (Nat → Int64) × (Nat → Int32))) (c_full : Int32) (c_cost : Nat → Int64) (c_found : Nat → Int32) (c_least : Nat → Int64) (c_weight : Nat → Int32) (v2 : Int32) (v3 : Int32) (v5 : Int32) (v6 : Int32) (v7 : Int32) : Option (Int32 × Int32 × (Nat → Int64) × (Nat → Int32) × (Nat → Int64) × (Nat → Int32)) :=
    f_X8_turn_79 N c_askers c_places c_seats c_wish k32 c_full c_cost c_found c_least c_weight v2 v3 v5 v6 v7 0
set_option maxHeartbeats 4000000 in
set_option maxRecDepth 100000 in
theorem g_X8_turn_78 {κ : KC} {ω : KW} {A : Nat → Prop} {ad : Nat → Nat} {u_above : Int64} {u_below : Int64} {u_firsts : Int32} {u_freed : Int32} {u_whole : Int64} {N : Nat} {c_askers : Int32} {c_places : Int32} {c_seats : Nat → Int32} {c_wish : Nat → Int32}  {k32 : Int32 → (Nat → Int64) → (Nat → Int32) → (Nat → Int64) → (Nat → Int32) → Int32 → Int32 → Int32 → Int32 → Int32 → Option (Int32 × Int32 × (Nat → Int64) × (Nat → Int32) × (Nat → Int64) × (Nat → Int32))} {res : Int32 × Int32 × (Nat → Int64) × (Nat → Int32) × (Nat → Int64) × (Nat → Int32)} (hk32 : ∀ {c_full : Int32} {c_cost : Nat → Int64} {c_found : Nat → Int32} {c_least : Nat → Int64} {c_weight : Nat → Int32} {v2 : Int32} {v3 : Int32} {v4 : Int32} {v5 : Int32} {v6 : Int32}, k32 c_full c_cost c_found c_least c_weight v2 v3 v4 v5 v6 = some res → GG mu_X8_turn κ ω A (QR κ ω A ad (some (.int res.1)) (w_X8_turn c_askers c_places res.2.1 res.2.2.1 res.2.2.2.1 res.2.2.2.2.1 c_seats res.2.2.2.2.2 c_wish u_above u_below u_firsts u_freed u_whole)) ad 0 0 32 (w_X8_turn c_askers c_places c_full c_cost c_found c_least c_seats c_weight c_wish u_above u_below u_firsts u_freed u_whole) [some (.ref 0), none, some (.int v2), some (.int v3), some (.int v4), some (.int v5), some (.int v6), none, none, none, none] []) {c_full : Int32} {c_cost : Nat → Int64} {c_found : Nat → Int32} {c_least : Nat → Int64} {c_weight : Nat → Int32} {v2 : Int32} {v3 : Int32} {v5 : Int32} {v6 : Int32} {v7 : Int32} (hf : f_X8_turn_78 N c_askers c_places c_seats c_wish k32 c_full c_cost c_found c_least c_weight v2 v3 v5 v6 v7 = some res) : GG mu_X8_turn κ ω A (QR κ ω A ad (some (.int res.1)) (w_X8_turn c_askers c_places res.2.1 res.2.2.1 res.2.2.2.1 res.2.2.2.2.1 c_seats res.2.2.2.2.2 c_wish u_above u_below u_firsts u_freed u_whole)) ad 0 0 78 (w_X8_turn c_askers c_places c_full c_cost c_found c_least c_seats c_weight c_wish u_above u_below u_firsts u_freed u_whole) [some (.ref 0), none, some (.int v2), some (.int v3), none, some (.int v5), some (.int v6), some (.int v7), none, none, none] [] := by
  refine G_iconst 0 dX8_turn_78 (by decide) ?_
  exact g_X8_turn_79 hk32 hf
def f_X8_turn_32 (N : Nat) (c_askers : Int32) (c_places : Int32) (c_seats : Nat → Int32) (c_wish : Nat → Int32) : Nat → Int32 → (Nat → Int64) → (Nat → Int32) → (Nat → Int64) → (Nat → Int32) → Int32 → Int32 → Int32 → Int32 → Int32 → Option (Int32 × Int32 × (Nat → Int64) × (Nat → Int32) × (Nat → Int64) × (Nat → Int32))
  | 0, _, _, _, _, _, _, _, _, _, _ => none
  | n + 1, c_full, c_cost, c_found, c_least, c_weight, v2, v3, v4, v5, v6 =>
    (if v6 < 0 then
      f_X8_turn_193 N c_askers c_places c_seats c_wish c_full c_cost c_found c_least c_weight v2 v4 v5
    else
      (if v4 = 0 then
        f_X8_turn_193 N c_askers c_places c_seats c_wish c_full c_cost c_found c_least c_weight v2 v4 v5
      else
        (f_X8_isAsker N c_askers (v5 - v5 / 8 * 8)).bind fun r3 =>
        (if r3 = 0 then
          f_X8_turn_78 N c_askers c_places c_seats c_wish (f_X8_turn_32 N c_askers c_places c_seats c_wish n) c_full c_cost c_found c_least c_weight v2 v3 (v5 / 8) v6 (v5 - v5 / 8 * 8)
        else
          (if ((v3 >>> ((v5 - v5 / 8 * 8) &&& 31)) &&& (1 : Int32)) = 0 then
            f_X8_turn_79 N c_askers c_places c_seats c_wish (f_X8_turn_32 N c_askers c_places c_seats c_wish n) c_full c_cost c_found c_least c_weight v2 v3 (v5 / 8) v6 (v5 - v5 / 8 * 8) 1
          else
            f_X8_turn_78 N c_askers c_places c_seats c_wish (f_X8_turn_32 N c_askers c_places c_seats c_wish n) c_full c_cost c_found c_least c_weight v2 v3 (v5 / 8) v6 (v5 - v5 / 8 * 8)))))
set_option maxHeartbeats 4000000 in
set_option maxRecDepth 100000 in
theorem g_X8_turn_32 {κ : KC} {ω : KW} {A : Nat → Prop} {ad : Nat → Nat} {u_above : Int64} {u_below : Int64} {u_firsts : Int32} {u_freed : Int32} {u_whole : Int64} {N : Nat} {c_askers : Int32} {c_places : Int32} {c_seats : Nat → Int32} {c_wish : Nat → Int32}  {res : Int32 × Int32 × (Nat → Int64) × (Nat → Int32) × (Nat → Int64) × (Nat → Int32)} : ∀ (n : Nat) {c_full : Int32} {c_cost : Nat → Int64} {c_found : Nat → Int32} {c_least : Nat → Int64} {c_weight : Nat → Int32} {v2 : Int32} {v3 : Int32} {v4 : Int32} {v5 : Int32} {v6 : Int32}, f_X8_turn_32 N c_askers c_places c_seats c_wish n c_full c_cost c_found c_least c_weight v2 v3 v4 v5 v6 = some res → GG mu_X8_turn κ ω A (QR κ ω A ad (some (.int res.1)) (w_X8_turn c_askers c_places res.2.1 res.2.2.1 res.2.2.2.1 res.2.2.2.2.1 c_seats res.2.2.2.2.2 c_wish u_above u_below u_firsts u_freed u_whole)) ad 0 0 32 (w_X8_turn c_askers c_places c_full c_cost c_found c_least c_seats c_weight c_wish u_above u_below u_firsts u_freed u_whole) [some (.ref 0), none, some (.int v2), some (.int v3), some (.int v4), some (.int v5), some (.int v6), none, none, none, none] [] := by
  intro n
  induction n with
  | zero => intro c_full c_cost c_found c_least c_weight v2 v3 v4 v5 v6 hf; exact ob_0 hf
  | succ n ih =>
    intro c_full c_cost c_found c_least c_weight v2 v3 v4 v5 v6 hf
    refine G_iload dX8_turn_32 rfl ?_
    refine G_if_lt 193 dX8_turn_34 (by decide) (fun h1 => ?_) (fun h1 => ?_)
    · replace hf := ob_t h1 hf
      refine GG.sb (lv2 := [some (.ref 0), none, some (.int v2), none, some (.int v4), some (.int v5), none, none, none, none, none]) ?_ (lvS_v rfl (lvS_n (lvS_v rfl (lvS_n (lvS_v rfl (lvS_v rfl (lvS_n (lvS_n (lvS_n (lvS_n (lvS_n (lvS_e))))))))))))
      exact g_X8_turn_193 hf
    · replace hf := ob_f h1 hf
      refine G_iload dX8_turn_37 rfl ?_
      refine G_if_eq 193 dX8_turn_39 (by decide) (fun h2 => ?_) (fun h2 => ?_)
      · replace hf := ob_t h2 hf
        refine GG.sb (lv2 := [some (.ref 0), none, some (.int v2), none, some (.int v4), some (.int v5), none, none, none, none, none]) ?_ (lvS_v rfl (lvS_n (lvS_v rfl (lvS_n (lvS_v rfl (lvS_v rfl (lvS_n (lvS_n (lvS_n (lvS_n (lvS_n (lvS_e))))))))))))
        exact g_X8_turn_193 hf
      · replace hf := ob_f h2 hf
        refine G_iload dX8_turn_42 rfl ?_
        refine G_bipush 8 dX8_turn_44 (by decide) ?_
        refine G_irem dX8_turn_46 (by decide) ?_
        refine G_istore dX8_turn_47 (ltb rfl) ?_
        change GG _ _ _ _ _ _ _ _ _ _ [some (.ref 0), none, some (.int v2), some (.int v3), some (.int v4), some (.int v5), some (.int v6), some (.int (v5 - v5 / 8 * 8)), none, none, none] _
        refine G_iload dX8_turn_49 rfl ?_
        refine G_bipush 8 dX8_turn_51 (by decide) ?_
        refine G_idiv dX8_turn_53 (by decide) ?_
        refine G_istore dX8_turn_54 (ltb rfl) ?_
        change GG _ _ _ _ _ _ _ _ _ _ [some (.ref 0), none, some (.int v2), some (.int v3), some (.int v4), some (.int (v5 / 8)), some (.int v6), some (.int (v5 - v5 / 8 * 8)), none, none, none] _
        refine G_aload_n dX8_turn_56 rfl rfl ?_
        refine G_iload dX8_turn_57 rfl ?_
        obtain ⟨r3, hc4, hf⟩ := ob hf
        refine G_callV (μ2 := mu_X8_isAsker) (As := [.int (v5 - v5 / 8 * 8)]) (w2 := (w_X8_turn c_askers c_places c_full c_cost c_found c_least c_seats c_weight c_wish u_above u_below u_firsts u_freed u_whole)) (wc := (w_X8_isAsker c_askers c_places u_above u_below c_full u_firsts u_freed u_whole)) (wc2 := (w_X8_isAsker c_askers c_places u_above u_below c_full u_firsts u_freed u_whole)) (rest := []) (rv := [.int r3]) [0] [4, 6, 1000, 5, 1001, 2, 1, 3, 1002, 1003, 1004, 1005, 1006, 1007, 1008, 1009, 1010, 1011, 1012, 1013, 1014] [1, 2, 3, 4, 5, 6] [6, 0, 1, 2, 3, 4, 5] (c_X8_isAsker hc4) cw_X8_isAsker m_X8_108 dX8_turn_59 rfl ⟨leb rfl, leb rfl⟩ ⟨rfl, rfl⟩ rfl ⟨_, rfl, rfl⟩ (Fit.mk rfl rfl rfl) rfl (leb rfl) (ROsub.nil rfl rfl) rfl ?_
        change GG _ _ _ _ _ _ _ _ _ (w_X8_turn c_askers c_places c_full c_cost c_found c_least c_seats c_weight c_wish u_above u_below u_firsts u_freed u_whole) [some (.ref 0), none, some (.int v2), some (.int v3), some (.int v4), some (.int (v5 / 8)), some (.int v6), some (.int (v5 - v5 / 8 * 8)), none, none, none] [.int r3]
        refine G_if_eq 78 dX8_turn_62 (by decide) (fun h5 => ?_) (fun h5 => ?_)
        · replace hf := ob_t h5 hf
          refine GG.sb (lv2 := [some (.ref 0), none, some (.int v2), some (.int v3), none, some (.int (v5 / 8)), some (.int v6), some (.int (v5 - v5 / 8 * 8)), none, none, none]) ?_ (lvS_v rfl (lvS_n (lvS_v rfl (lvS_v rfl (lvS_n (lvS_v rfl (lvS_v rfl (lvS_v rfl (lvS_n (lvS_n (lvS_n (lvS_e))))))))))))
          exact g_X8_turn_78 ih hf
        · replace hf := ob_f h5 hf
          refine G_iload_n dX8_turn_65 rfl rfl ?_
          refine G_iload dX8_turn_66 rfl ?_
          refine G_ishr dX8_turn_68 ?_
          refine G_iconst 1 dX8_turn_69 (by decide) ?_
          refine G_iand dX8_turn_70 ?_
          refine G_if_ne 78 dX8_turn_71 (by decide) (fun h6 => ?_) (fun h6 => ?_)
          · replace hf := ob_f h6 hf
            refine GG.sb (lv2 := [some (.ref 0), none, some (.int v2), some (.int v3), none, some (.int (v5 / 8)), some (.int v6), some (.int (v5 - v5 / 8 * 8)), none, none, none]) ?_ (lvS_v rfl (lvS_n (lvS_v rfl (lvS_v rfl (lvS_n (lvS_v rfl (lvS_v rfl (lvS_v rfl (lvS_n (lvS_n (lvS_n (lvS_e))))))))))))
            exact g_X8_turn_78 ih hf
          · replace hf := ob_t h6 hf
            refine G_iconst 1 dX8_turn_74 (by decide) ?_
            refine G_goto 79 dX8_turn_75 (by decide) ?_
            refine GG.sb (lv2 := [some (.ref 0), none, some (.int v2), some (.int v3), none, some (.int (v5 / 8)), some (.int v6), some (.int (v5 - v5 / 8 * 8)), none, none, none]) ?_ (lvS_v rfl (lvS_n (lvS_v rfl (lvS_v rfl (lvS_n (lvS_v rfl (lvS_v rfl (lvS_v rfl (lvS_n (lvS_n (lvS_n (lvS_e))))))))))))
            exact g_X8_turn_79 ih hf
def f_X8_turn_19 (N : Nat) (c_askers : Int32) (c_places : Int32) (c_seats : Nat → Int32) (c_wish : Nat → Int32) (c_full : Int32) (c_cost : Nat → Int64) (c_found : Nat → Int32) (c_least : Nat → Int64) (c_weight : Nat → Int32) (v1 : Int32) (v2 : Int32) (v3 : Int32) (s0 : Int32) : Option (Int32 × Int32 × (Nat → Int64) × (Nat → Int32) × (Nat → Int64) × (Nat → Int32)) :=
    f_X8_turn_32 N c_askers c_places c_seats c_wish N c_full c_cost c_found c_least c_weight v2 v3 s0 v1 (c_askers - 1)
set_option maxHeartbeats 4000000 in
set_option maxRecDepth 100000 in
theorem g_X8_turn_19 {κ : KC} {ω : KW} {A : Nat → Prop} {ad : Nat → Nat} {u_above : Int64} {u_below : Int64} {u_firsts : Int32} {u_freed : Int32} {u_whole : Int64} {N : Nat} {c_askers : Int32} {c_places : Int32} {c_seats : Nat → Int32} {c_wish : Nat → Int32}  {res : Int32 × Int32 × (Nat → Int64) × (Nat → Int32) × (Nat → Int64) × (Nat → Int32)} {c_full : Int32} {c_cost : Nat → Int64} {c_found : Nat → Int32} {c_least : Nat → Int64} {c_weight : Nat → Int32} {v1 : Int32} {v2 : Int32} {v3 : Int32} {s0 : Int32} (hf : f_X8_turn_19 N c_askers c_places c_seats c_wish c_full c_cost c_found c_least c_weight v1 v2 v3 s0 = some res) : GG mu_X8_turn κ ω A (QR κ ω A ad (some (.int res.1)) (w_X8_turn c_askers c_places res.2.1 res.2.2.1 res.2.2.2.1 res.2.2.2.2.1 c_seats res.2.2.2.2.2 c_wish u_above u_below u_firsts u_freed u_whole)) ad 0 0 19 (w_X8_turn c_askers c_places c_full c_cost c_found c_least c_seats c_weight c_wish u_above u_below u_firsts u_freed u_whole) [some (.ref 0), some (.int v1), some (.int v2), some (.int v3), none, none, none, none, none, none, none] [.int s0] := by
  refine G_istore dX8_turn_19 (ltb rfl) ?_
  change GG _ _ _ _ _ _ _ _ _ _ [some (.ref 0), some (.int v1), some (.int v2), some (.int v3), some (.int s0), none, none, none, none, none, none] _
  refine G_iload_n dX8_turn_21 rfl rfl ?_
  refine G_istore dX8_turn_22 (ltb rfl) ?_
  change GG _ _ _ _ _ _ _ _ _ _ [some (.ref 0), some (.int v1), some (.int v2), some (.int v3), some (.int s0), some (.int v1), none, none, none, none, none] _
  refine G_aload_n dX8_turn_24 rfl rfl ?_
  refine G_get (v := .int c_askers) F_X8_89 dX8_turn_25 rfl rfl ?_
  refine G_iconst 1 dX8_turn_28 (by decide) ?_
  refine G_isub dX8_turn_29 ?_
  refine G_istore dX8_turn_30 (ltb rfl) ?_
  change GG _ _ _ _ _ _ _ _ _ _ [some (.ref 0), some (.int v1), some (.int v2), some (.int v3), some (.int s0), some (.int v1), some (.int (c_askers - 1)), none, none, none, none] _
  refine GG.sb (lv2 := [some (.ref 0), none, some (.int v2), some (.int v3), some (.int s0), some (.int v1), some (.int (c_askers - 1)), none, none, none, none]) ?_ (lvS_v rfl (lvS_n (lvS_v rfl (lvS_v rfl (lvS_v rfl (lvS_v rfl (lvS_v rfl (lvS_n (lvS_n (lvS_n (lvS_n (lvS_e))))))))))))
  exact g_X8_turn_32 N hf
def f_X8_turn_18 (N : Nat) (c_askers : Int32) (c_places : Int32) (c_seats : Nat → Int32) (c_wish : Nat → Int32) (c_full : Int32) (c_cost : Nat → Int64) (c_found : Nat → Int32) (c_least : Nat → Int64) (c_weight : Nat → Int32) (v1 : Int32) (v2 : Int32) (v3 : Int32) : Option (Int32 × Int32 × (Nat → Int64) × (Nat → Int32) × (Nat → Int64) × (Nat → Int32)) :=
    f_X8_turn_19 N c_askers c_places c_seats c_wish c_full c_cost c_found c_least c_weight v1 v2 v3 0
set_option maxHeartbeats 4000000 in
set_option maxRecDepth 100000 in
theorem g_X8_turn_18 {κ : KC} {ω : KW} {A : Nat → Prop} {ad : Nat → Nat} {u_above : Int64} {u_below : Int64} {u_firsts : Int32} {u_freed : Int32} {u_whole : Int64} {N : Nat} {c_askers : Int32} {c_places : Int32} {c_seats : Nat → Int32} {c_wish : Nat → Int32}  {res : Int32 × Int32 × (Nat → Int64) × (Nat → Int32) × (Nat → Int64) × (Nat → Int32)} {c_full : Int32} {c_cost : Nat → Int64} {c_found : Nat → Int32} {c_least : Nat → Int64} {c_weight : Nat → Int32} {v1 : Int32} {v2 : Int32} {v3 : Int32} (hf : f_X8_turn_18 N c_askers c_places c_seats c_wish c_full c_cost c_found c_least c_weight v1 v2 v3 = some res) : GG mu_X8_turn κ ω A (QR κ ω A ad (some (.int res.1)) (w_X8_turn c_askers c_places res.2.1 res.2.2.1 res.2.2.2.1 res.2.2.2.2.1 c_seats res.2.2.2.2.2 c_wish u_above u_below u_firsts u_freed u_whole)) ad 0 0 18 (w_X8_turn c_askers c_places c_full c_cost c_found c_least c_seats c_weight c_wish u_above u_below u_firsts u_freed u_whole) [some (.ref 0), some (.int v1), some (.int v2), some (.int v3), none, none, none, none, none, none, none] [] := by
  refine G_iconst 0 dX8_turn_18 (by decide) ?_
  exact g_X8_turn_19 hf
def f_X8_turn (N : Nat) (c_askers : Int32) (c_places : Int32) (c_seats : Nat → Int32) (c_wish : Nat → Int32) (c_full : Int32) (c_cost : Nat → Int64) (c_found : Nat → Int32) (c_least : Nat → Int64) (c_weight : Nat → Int32) (a1 : Int32) (a2 : Int32) : Option (Int32 × Int32 × (Nat → Int64) × (Nat → Int32) × (Nat → Int64) × (Nat → Int32)) :=
  (f_X8_isAsker N c_askers a2).bind fun r1 =>
  (if r1 = 0 then
    f_X8_turn_18 N c_askers c_places c_seats c_wish c_full c_cost c_found c_least c_weight a1 a2 0
  else
    (if a1 < 0 then
      f_X8_turn_18 N c_askers c_places c_seats c_wish c_full c_cost c_found c_least c_weight a1 a2 0
    else
      f_X8_turn_19 N c_askers c_places c_seats c_wish c_full c_cost c_found c_least c_weight a1 a2 0 1))
set_option maxHeartbeats 4000000 in
set_option maxRecDepth 100000 in
theorem c_X8_turn {N : Nat} {c_askers : Int32} {c_places : Int32} {c_seats : Nat → Int32} {c_wish : Nat → Int32} {c_full : Int32} {c_cost : Nat → Int64} {c_found : Nat → Int32} {c_least : Nat → Int64} {c_weight : Nat → Int32} {u_above : Int64} {u_below : Int64} {u_firsts : Int32} {u_freed : Int32} {u_whole : Int64} {a1 : Int32} {a2 : Int32} {res : Int32 × Int32 × (Nat → Int64) × (Nat → Int32) × (Nat → Int64) × (Nat → Int32)} (hf : f_X8_turn N c_askers c_places c_seats c_wish c_full c_cost c_found c_least c_weight a1 a2 = some res) : Con mu_X8_turn [.ref 0, .int a1, .int a2] (w_X8_turn c_askers c_places c_full c_cost c_found c_least c_seats c_weight c_wish u_above u_below u_firsts u_freed u_whole) (some (.int res.1)) (w_X8_turn c_askers c_places res.2.1 res.2.2.1 res.2.2.2.1 res.2.2.2.2.1 c_seats res.2.2.2.2.2 c_wish u_above u_below u_firsts u_freed u_whole) := by
  refine Con.mk (show plainName RX8 = true by decide +kernel) (leb rfl) (fun κ ω A ad => ?_)
  change GG mu_X8_turn κ ω A (QR κ ω A ad (some (.int res.1)) (w_X8_turn c_askers c_places res.2.1 res.2.2.1 res.2.2.2.1 res.2.2.2.2.1 c_seats res.2.2.2.2.2 c_wish u_above u_below u_firsts u_freed u_whole)) ad 0 0 0 (w_X8_turn c_askers c_places c_full c_cost c_found c_least c_seats c_weight c_wish u_above u_below u_firsts u_freed u_whole) [some (.ref 0), some (.int a1), some (.int a2), none, none, none, none, none, none, none, none] []
  refine G_iconst 0 dX8_turn_0 (by decide) ?_
  refine G_istore_n dX8_turn_1 rfl (ltb rfl) ?_
  change GG _ _ _ _ _ _ _ _ _ _ [some (.ref 0), some (.int a1), some (.int a2), some (.int 0), none, none, none, none, none, none, none] _
  refine G_aload_n dX8_turn_2 rfl rfl ?_
  refine G_iload_n dX8_turn_3 rfl rfl ?_
  obtain ⟨r1, hc2, hf⟩ := ob hf
  refine G_callV (μ2 := mu_X8_isAsker) (As := [.int a2]) (w2 := (w_X8_turn c_askers c_places c_full c_cost c_found c_least c_seats c_weight c_wish u_above u_below u_firsts u_freed u_whole)) (wc := (w_X8_isAsker c_askers c_places u_above u_below c_full u_firsts u_freed u_whole)) (wc2 := (w_X8_isAsker c_askers c_places u_above u_below c_full u_firsts u_freed u_whole)) (rest := []) (rv := [.int r1]) [0] [4, 6, 1000, 5, 1001, 2, 1, 3, 1002, 1003, 1004, 1005, 1006, 1007, 1008, 1009, 1010, 1011, 1012, 1013, 1014] [1, 2, 3, 4, 5, 6] [6, 0, 1, 2, 3, 4, 5] (c_X8_isAsker hc2) cw_X8_isAsker m_X8_108 dX8_turn_4 rfl ⟨leb rfl, leb rfl⟩ ⟨rfl, rfl⟩ rfl ⟨_, rfl, rfl⟩ (Fit.mk rfl rfl rfl) rfl (leb rfl) (ROsub.nil rfl rfl) rfl ?_
  change GG _ _ _ _ _ _ _ _ _ (w_X8_turn c_askers c_places c_full c_cost c_found c_least c_seats c_weight c_wish u_above u_below u_firsts u_freed u_whole) [some (.ref 0), some (.int a1), some (.int a2), some (.int 0), none, none, none, none, none, none, none] [.int r1]
  refine G_if_eq 18 dX8_turn_7 (by decide) (fun h3 => ?_) (fun h3 => ?_)
  · replace hf := ob_t h3 hf
    exact g_X8_turn_18 hf
  · replace hf := ob_f h3 hf
    refine G_iload_n dX8_turn_10 rfl rfl ?_
    refine G_if_lt 18 dX8_turn_11 (by decide) (fun h4 => ?_) (fun h4 => ?_)
    · replace hf := ob_t h4 hf
      exact g_X8_turn_18 hf
    · replace hf := ob_f h4 hf
      refine G_iconst 1 dX8_turn_14 (by decide) ?_
      refine G_goto 19 dX8_turn_15 (by decide) ?_
      exact g_X8_turn_19 hf
set_option maxRecDepth 20000 in
theorem dX8_round_0 : decode cX8_round 0 = .ok (.iload_n 1, 1) := by decide +kernel
set_option maxRecDepth 20000 in
theorem dX8_round_1 : decode cX8_round 1 = .ok (.invokestatic 127, 3) := by decide +kernel
set_option maxRecDepth 20000 in
theorem dX8_round_4 : decode cX8_round 4 = .ok (.ifCond .eq 11, 3) := by decide +kernel
set_option maxRecDepth 20000 in
theorem dX8_round_7 : decode cX8_round 7 = .ok (.aload_n 0, 1) := by decide +kernel
set_option maxRecDepth 20000 in
theorem dX8_round_8 : decode cX8_round 8 = .ok (.iload_n 2, 1) := by decide +kernel
set_option maxRecDepth 20000 in
theorem dX8_round_9 : decode cX8_round 9 = .ok (.invokevirtual 108, 3) := by decide +kernel
set_option maxRecDepth 20000 in
theorem dX8_round_12 : decode cX8_round 12 = .ok (.ifCond .ne 6, 3) := by decide +kernel
set_option maxRecDepth 20000 in
theorem dX8_round_15 : decode cX8_round 15 = .ok (.bipush (-2), 2) := by decide +kernel
set_option maxRecDepth 20000 in
theorem dX8_round_17 : decode cX8_round 17 = .ok (.ireturn, 1) := by decide +kernel
set_option maxRecDepth 20000 in
theorem dX8_round_18 : decode cX8_round 18 = .ok (.aload_n 0, 1) := by decide +kernel
set_option maxRecDepth 20000 in
theorem dX8_round_19 : decode cX8_round 19 = .ok (.iload_n 1, 1) := by decide +kernel
set_option maxRecDepth 20000 in
theorem dX8_round_20 : decode cX8_round 20 = .ok (.invokevirtual 158, 3) := by decide +kernel
set_option maxRecDepth 20000 in
theorem dX8_round_23 : decode cX8_round 23 = .ok (.aload_n 0, 1) := by decide +kernel
set_option maxRecDepth 20000 in
theorem dX8_round_24 : decode cX8_round 24 = .ok (.getfield 52, 3) := by decide +kernel
set_option maxRecDepth 20000 in
theorem dX8_round_27 : decode cX8_round 27 = .ok (.iload_n 2, 1) := by decide +kernel
set_option maxRecDepth 20000 in
theorem dX8_round_28 : decode cX8_round 28 = .ok (.iaload, 1) := by decide +kernel
set_option maxRecDepth 20000 in
theorem dX8_round_29 : decode cX8_round 29 = .ok (.ireturn, 1) := by decide +kernel
def f_X8_round (N : Nat) (c_askers : Int32) (c_told : Nat → Int32) (c_wish : Nat → Int32) (c_found : Nat → Int32) (c_points : Nat → Int32) (c_served : Nat → Int32) (a1 : Int32) (a2 : Int32) : Option (Int32 × (Nat → Int32) × (Nat → Int32) × (Nat → Int32)) :=
  (f_X8_isTold N a1).bind fun r1 =>
  (if r1 = 0 then
    some ((-2 : Int32), c_found, c_points, c_served)
  else
    (f_X8_isAsker N c_askers a2).bind fun r4 =>
    (if r4 = 0 then
      some ((-2 : Int32), c_found, c_points, c_served)
    else
      (f_X8_findTrade N c_askers c_told c_wish c_found c_points c_served a1).bind fun (o7, o8, o9) =>
      (rdI 8 o9 a2).bind fun t11 =>
      some (t11, o7, o8, o9)))
set_option maxHeartbeats 4000000 in
set_option maxRecDepth 100000 in
theorem c_X8_round {N : Nat} {c_askers : Int32} {c_told : Nat → Int32} {c_wish : Nat → Int32} {c_found : Nat → Int32} {c_points : Nat → Int32} {c_served : Nat → Int32} {u_places : Int32} {u_above : Int64} {u_below : Int64} {u_full : Int32} {u_firsts : Int32} {u_freed : Int32} {u_whole : Int64} {a1 : Int32} {a2 : Int32} {res : Int32 × (Nat → Int32) × (Nat → Int32) × (Nat → Int32)} (hf : f_X8_round N c_askers c_told c_wish c_found c_points c_served a1 a2 = some res) : Con mu_X8_round [.ref 0, .int a1, .int a2] (w_X8_round c_askers c_found c_points c_served c_told c_wish u_places u_above u_below u_full u_firsts u_freed u_whole) (some (.int res.1)) (w_X8_round c_askers res.2.1 res.2.2.1 res.2.2.2 c_told c_wish u_places u_above u_below u_full u_firsts u_freed u_whole) := by
  refine Con.mk (show plainName RX8 = true by decide +kernel) (leb rfl) (fun κ ω A ad => ?_)
  change GG mu_X8_round κ ω A (QR κ ω A ad (some (.int res.1)) (w_X8_round c_askers res.2.1 res.2.2.1 res.2.2.2 c_told c_wish u_places u_above u_below u_full u_firsts u_freed u_whole)) ad 0 0 0 (w_X8_round c_askers c_found c_points c_served c_told c_wish u_places u_above u_below u_full u_firsts u_freed u_whole) [some (.ref 0), some (.int a1), some (.int a2)] []
  refine G_iload_n dX8_round_0 rfl rfl ?_
  obtain ⟨r1, hc2, hf⟩ := ob hf
  refine G_callS (μ2 := mu_X8_isTold) (As := [.int a1]) (w2 := (w_X8_round c_askers c_found c_points c_served c_told c_wish u_places u_above u_below u_full u_firsts u_freed u_whole)) (wc := []) (wc2 := []) (rest := []) (rv := [.int r1]) [] [] [0, 1, 2, 3, 4, 5] [0, 1, 2, 3, 4, 5] (c_X8_isTold hc2) cw_X8_isTold m_X8_127 rfl dX8_round_1 rfl ⟨leb rfl, leb rfl⟩ ⟨rfl, rfl⟩ (Fit.mk rfl rfl rfl) rfl (leb rfl) (ROsub.nil rfl rfl) rfl ?_
  change GG _ _ _ _ _ _ _ _ _ (w_X8_round c_askers c_found c_points c_served c_told c_wish u_places u_above u_below u_full u_firsts u_freed u_whole) [some (.ref 0), some (.int a1), some (.int a2)] [.int r1]
  refine G_if_eq 15 dX8_round_4 (by decide) (fun h3 => ?_) (fun h3 => ?_)
  · replace hf := ob_t h3 hf
    refine G_bipush (-2 : Int32) dX8_round_15 (by decide) ?_
    obtain rfl := os hf
    exact G_ireturn dX8_round_17 rfl
  · replace hf := ob_f h3 hf
    refine G_aload_n dX8_round_7 rfl rfl ?_
    refine G_iload_n dX8_round_8 rfl rfl ?_
    obtain ⟨r4, hc5, hf⟩ := ob hf
    refine G_callV (μ2 := mu_X8_isAsker) (As := [.int a2]) (w2 := (w_X8_round c_askers c_found c_points c_served c_told c_wish u_places u_above u_below u_full u_firsts u_freed u_whole)) (wc := (w_X8_isAsker c_askers u_places u_above u_below u_full u_firsts u_freed u_whole)) (wc2 := (w_X8_isAsker c_askers u_places u_above u_below u_full u_firsts u_freed u_whole)) (rest := []) (rv := [.int r4]) [0] [1000, 5, 4, 1001, 1002, 1, 1003, 1004, 1005, 1006, 1007, 1008, 1009, 3, 2, 1010, 1011, 1012, 1013, 1014, 1015] [1, 2, 3, 4, 5] [5, 0, 1, 2, 3, 4] (c_X8_isAsker hc5) cw_X8_isAsker m_X8_108 dX8_round_9 rfl ⟨leb rfl, leb rfl⟩ ⟨rfl, rfl⟩ rfl ⟨_, rfl, rfl⟩ (Fit.mk rfl rfl rfl) rfl (leb rfl) (ROsub.nil rfl rfl) rfl ?_
    change GG _ _ _ _ _ _ _ _ _ (w_X8_round c_askers c_found c_points c_served c_told c_wish u_places u_above u_below u_full u_firsts u_freed u_whole) [some (.ref 0), some (.int a1), some (.int a2)] [.int r4]
    refine G_if_ne 18 dX8_round_12 (by decide) (fun h6 => ?_) (fun h6 => ?_)
    · replace hf := ob_f h6 hf
      refine G_aload_n dX8_round_18 rfl rfl ?_
      refine G_iload_n dX8_round_19 rfl rfl ?_
      obtain ⟨⟨o7, o8, o9⟩, hc10, hf⟩ := ob hf
      refine G_callV (μ2 := mu_X8_findTrade) (As := [.int a1]) (w2 := (w_X8_round c_askers o7 o8 o9 c_told c_wish u_places u_above u_below u_full u_firsts u_freed u_whole)) (wc := (w_X8_findTrade c_askers c_found c_points c_served c_told c_wish u_places u_above u_below u_full u_firsts u_freed u_whole)) (wc2 := (w_X8_findTrade c_askers o7 o8 o9 c_told c_wish u_places u_above u_below u_full u_firsts u_freed u_whole)) (rest := []) (rv := []) [0, 1, 2, 3, 4, 5] [1000, 1001, 1002, 1003, 1004, 1005, 1006, 1007, 1008, 1009, 1010, 1011, 1012, 1013, 1014, 1015] [] [0, 1, 2, 3, 4, 5] (c_X8_findTrade hc10) cw_X8_findTrade m_X8_158 dX8_round_20 rfl ⟨leb rfl, leb rfl⟩ ⟨rfl, rfl⟩ rfl ⟨_, rfl, rfl⟩ (Fit.mk rfl rfl rfl) rfl (leb rfl) (ROsub.nil rfl rfl) rfl ?_
      change GG _ _ _ _ _ _ _ _ _ (w_X8_round c_askers o7 o8 o9 c_told c_wish u_places u_above u_below u_full u_firsts u_freed u_whole) [some (.ref 0), some (.int a1), some (.int a2)] []
      refine G_aload_n dX8_round_23 rfl rfl ?_
      refine G_get (v := .ref 3) F_X8_52 dX8_round_24 rfl rfl ?_
      refine G_iload_n dX8_round_27 rfl rfl ?_
      obtain ⟨t11, ht11, hf⟩ := ob hf
      refine G_iald dX8_round_28 rfl ht11 ?_
      obtain rfl := os hf
      exact G_ireturn dX8_round_29 rfl
    · replace hf := ob_t h6 hf
      refine G_bipush (-2 : Int32) dX8_round_15 (by decide) ?_
      obtain rfl := os hf
      exact G_ireturn dX8_round_17 rfl
set_option maxRecDepth 20000 in
theorem dX8_wants_0 : decode cX8_wants 0 = .ok (.aload_n 0, 1) := by decide +kernel
set_option maxRecDepth 20000 in
theorem dX8_wants_1 : decode cX8_wants 1 = .ok (.getfield 16, 3) := by decide +kernel
set_option maxRecDepth 20000 in
theorem dX8_wants_4 : decode cX8_wants 4 = .ok (.bipush 8, 2) := by decide +kernel
set_option maxRecDepth 20000 in
theorem dX8_wants_6 : decode cX8_wants 6 = .ok (.iload_n 2, 1) := by decide +kernel
set_option maxRecDepth 20000 in
theorem dX8_wants_7 : decode cX8_wants 7 = .ok (.imul, 1) := by decide +kernel
set_option maxRecDepth 20000 in
theorem dX8_wants_8 : decode cX8_wants 8 = .ok (.iload_n 3, 1) := by decide +kernel
set_option maxRecDepth 20000 in
theorem dX8_wants_9 : decode cX8_wants 9 = .ok (.iadd, 1) := by decide +kernel
set_option maxRecDepth 20000 in
theorem dX8_wants_10 : decode cX8_wants 10 = .ok (.iaload, 1) := by decide +kernel
set_option maxRecDepth 20000 in
theorem dX8_wants_11 : decode cX8_wants 11 = .ok (.ifCond .le 22, 3) := by decide +kernel
set_option maxRecDepth 20000 in
theorem dX8_wants_14 : decode cX8_wants 14 = .ok (.aload_n 0, 1) := by decide +kernel
set_option maxRecDepth 20000 in
theorem dX8_wants_15 : decode cX8_wants 15 = .ok (.getfield 16, 3) := by decide +kernel
set_option maxRecDepth 20000 in
theorem dX8_wants_18 : decode cX8_wants 18 = .ok (.bipush 8, 2) := by decide +kernel
set_option maxRecDepth 20000 in
theorem dX8_wants_20 : decode cX8_wants 20 = .ok (.iload_n 2, 1) := by decide +kernel
set_option maxRecDepth 20000 in
theorem dX8_wants_21 : decode cX8_wants 21 = .ok (.imul, 1) := by decide +kernel
set_option maxRecDepth 20000 in
theorem dX8_wants_22 : decode cX8_wants 22 = .ok (.iload 4, 2) := by decide +kernel
set_option maxRecDepth 20000 in
theorem dX8_wants_24 : decode cX8_wants 24 = .ok (.iadd, 1) := by decide +kernel
set_option maxRecDepth 20000 in
theorem dX8_wants_25 : decode cX8_wants 25 = .ok (.iaload, 1) := by decide +kernel
set_option maxRecDepth 20000 in
theorem dX8_wants_26 : decode cX8_wants 26 = .ok (.ifCond .le 7, 3) := by decide +kernel
set_option maxRecDepth 20000 in
theorem dX8_wants_29 : decode cX8_wants 29 = .ok (.iconst 1, 1) := by decide +kernel
set_option maxRecDepth 20000 in
theorem dX8_wants_30 : decode cX8_wants 30 = .ok (.goto 4, 3) := by decide +kernel
set_option maxRecDepth 20000 in
theorem dX8_wants_33 : decode cX8_wants 33 = .ok (.iconst 0, 1) := by decide +kernel
set_option maxRecDepth 20000 in
theorem dX8_wants_34 : decode cX8_wants 34 = .ok (.istore 5, 2) := by decide +kernel
set_option maxRecDepth 20000 in
theorem dX8_wants_36 : decode cX8_wants 36 = .ok (.iload 5, 2) := by decide +kernel
set_option maxRecDepth 20000 in
theorem dX8_wants_38 : decode cX8_wants 38 = .ok (.ifCond .eq 43, 3) := by decide +kernel
set_option maxRecDepth 20000 in
theorem dX8_wants_41 : decode cX8_wants 41 = .ok (.aload_n 0, 1) := by decide +kernel
set_option maxRecDepth 20000 in
theorem dX8_wants_42 : decode cX8_wants 42 = .ok (.iload_n 3, 1) := by decide +kernel
set_option maxRecDepth 20000 in
theorem dX8_wants_43 : decode cX8_wants 43 = .ok (.aload_n 0, 1) := by decide +kernel
set_option maxRecDepth 20000 in
theorem dX8_wants_44 : decode cX8_wants 44 = .ok (.getfield 16, 3) := by decide +kernel
set_option maxRecDepth 20000 in
theorem dX8_wants_47 : decode cX8_wants 47 = .ok (.bipush 8, 2) := by decide +kernel
set_option maxRecDepth 20000 in
theorem dX8_wants_49 : decode cX8_wants 49 = .ok (.iload_n 2, 1) := by decide +kernel
set_option maxRecDepth 20000 in
theorem dX8_wants_50 : decode cX8_wants 50 = .ok (.imul, 1) := by decide +kernel
set_option maxRecDepth 20000 in
theorem dX8_wants_51 : decode cX8_wants 51 = .ok (.iload 4, 2) := by decide +kernel
set_option maxRecDepth 20000 in
theorem dX8_wants_53 : decode cX8_wants 53 = .ok (.iadd, 1) := by decide +kernel
set_option maxRecDepth 20000 in
theorem dX8_wants_54 : decode cX8_wants 54 = .ok (.iaload, 1) := by decide +kernel
set_option maxRecDepth 20000 in
theorem dX8_wants_55 : decode cX8_wants 55 = .ok (.invokevirtual 111, 3) := by decide +kernel
set_option maxRecDepth 20000 in
theorem dX8_wants_58 : decode cX8_wants 58 = .ok (.aload_n 0, 1) := by decide +kernel
set_option maxRecDepth 20000 in
theorem dX8_wants_59 : decode cX8_wants 59 = .ok (.iload_n 3, 1) := by decide +kernel
set_option maxRecDepth 20000 in
theorem dX8_wants_60 : decode cX8_wants 60 = .ok (.aload_n 0, 1) := by decide +kernel
set_option maxRecDepth 20000 in
theorem dX8_wants_61 : decode cX8_wants 61 = .ok (.getfield 16, 3) := by decide +kernel
set_option maxRecDepth 20000 in
theorem dX8_wants_64 : decode cX8_wants 64 = .ok (.bipush 8, 2) := by decide +kernel
set_option maxRecDepth 20000 in
theorem dX8_wants_66 : decode cX8_wants 66 = .ok (.iload_n 1, 1) := by decide +kernel
set_option maxRecDepth 20000 in
theorem dX8_wants_67 : decode cX8_wants 67 = .ok (.imul, 1) := by decide +kernel
set_option maxRecDepth 20000 in
theorem dX8_wants_68 : decode cX8_wants 68 = .ok (.iload_n 3, 1) := by decide +kernel
set_option maxRecDepth 20000 in
theorem dX8_wants_69 : decode cX8_wants 69 = .ok (.iadd, 1) := by decide +kernel
set_option maxRecDepth 20000 in
theorem dX8_wants_70 : decode cX8_wants 70 = .ok (.iaload, 1) := by decide +kernel
set_option maxRecDepth 20000 in
theorem dX8_wants_71 : decode cX8_wants 71 = .ok (.invokevirtual 111, 3) := by decide +kernel
set_option maxRecDepth 20000 in
theorem dX8_wants_74 : decode cX8_wants 74 = .ok (.if_icmp .ge 7, 3) := by decide +kernel
set_option maxRecDepth 20000 in
theorem dX8_wants_77 : decode cX8_wants 77 = .ok (.iconst 1, 1) := by decide +kernel
set_option maxRecDepth 20000 in
theorem dX8_wants_78 : decode cX8_wants 78 = .ok (.goto 4, 3) := by decide +kernel
set_option maxRecDepth 20000 in
theorem dX8_wants_81 : decode cX8_wants 81 = .ok (.iconst 0, 1) := by decide +kernel
set_option maxRecDepth 20000 in
theorem dX8_wants_82 : decode cX8_wants 82 = .ok (.ireturn, 1) := by decide +kernel
def f_X8_wants_34 (N : Nat) (c_told : Nat → Int32) (c_wish : Nat → Int32) (v1 : Int32) (v2 : Int32) (v3 : Int32) (v4 : Int32) (s0 : Int32) : Option (Int32) :=
    (if s0 = 0 then
      some 0
    else
      (rdI 32 c_told ((8 * v2) + v4)).bind fun t2 =>
      (f_X8_worthOf N c_wish v3 t2).bind fun r3 =>
      (rdI 32 c_told ((8 * v1) + v3)).bind fun t5 =>
      (f_X8_worthOf N c_wish v3 t5).bind fun r6 =>
      (if r6 ≤ r3 then
        some 0
      else
        some 1))
set_option maxHeartbeats 4000000 in
set_option maxRecDepth 100000 in
theorem g_X8_wants_34 {κ : KC} {ω : KW} {A : Nat → Prop} {ad : Nat → Nat} {u_askers : Int32} {u_places : Int32} {u_above : Int64} {u_below : Int64} {u_full : Int32} {u_firsts : Int32} {u_freed : Int32} {u_whole : Int64} {N : Nat} {c_told : Nat → Int32} {c_wish : Nat → Int32}  {res : Int32} {v1 : Int32} {v2 : Int32} {v3 : Int32} {v4 : Int32} {s0 : Int32} (hf : f_X8_wants_34 N c_told c_wish v1 v2 v3 v4 s0 = some res) : GG mu_X8_wants κ ω A (QR κ ω A ad (some (.int res)) (w_X8_wants c_told c_wish u_askers u_places u_above u_below u_full u_firsts u_freed u_whole)) ad 0 0 34 (w_X8_wants c_told c_wish u_askers u_places u_above u_below u_full u_firsts u_freed u_whole) [some (.ref 0), some (.int v1), some (.int v2), some (.int v3), some (.int v4), none] [.int s0] := by
  refine G_istore dX8_wants_34 (ltb rfl) ?_
  change GG _ _ _ _ _ _ _ _ _ _ [some (.ref 0), some (.int v1), some (.int v2), some (.int v3), some (.int v4), some (.int s0)] _
  refine G_iload dX8_wants_36 rfl ?_
  refine G_if_eq 81 dX8_wants_38 (by decide) (fun h1 => ?_) (fun h1 => ?_)
  · replace hf := ob_t h1 hf
    refine G_iconst 0 dX8_wants_81 (by decide) ?_
    obtain rfl := os hf
    exact G_zreturn dX8_wants_82 rfl z_0
  · replace hf := ob_f h1 hf
    refine G_aload_n dX8_wants_41 rfl rfl ?_
    refine G_iload_n dX8_wants_42 rfl rfl ?_
    refine G_aload_n dX8_wants_43 rfl rfl ?_
    refine G_get (v := .ref 1) F_X8_16 dX8_wants_44 rfl rfl ?_
    refine G_bipush 8 dX8_wants_47 (by decide) ?_
    refine G_iload_n dX8_wants_49 rfl rfl ?_
    refine G_imul dX8_wants_50 ?_
    refine G_iload dX8_wants_51 rfl ?_
    refine G_iadd dX8_wants_53 ?_
    obtain ⟨t2, ht2, hf⟩ := ob hf
    refine G_iald dX8_wants_54 rfl ht2 ?_
    obtain ⟨r3, hc4, hf⟩ := ob hf
    refine G_callV (μ2 := mu_X8_worthOf) (As := [.int v3, .int t2]) (w2 := (w_X8_wants c_told c_wish u_askers u_places u_above u_below u_full u_firsts u_freed u_whole)) (wc := (w_X8_worthOf c_wish u_askers u_places u_above u_below u_full u_firsts u_freed u_whole)) (wc2 := (w_X8_worthOf c_wish u_askers u_places u_above u_below u_full u_firsts u_freed u_whole)) (rest := []) (rv := [.int r3]) [0, 2] [1000, 1, 1001, 1002, 1003, 1004, 1005, 1006, 1007, 1008, 1009, 1010, 1011, 1012, 1013, 1014, 1015, 1016, 1017, 1018] [1] [1, 0, 2] (c_X8_worthOf hc4) cw_X8_worthOf m_X8_111 dX8_wants_55 rfl ⟨leb rfl, leb rfl⟩ ⟨rfl, rfl⟩ rfl ⟨_, rfl, rfl⟩ (Fit.mk rfl rfl rfl) rfl (leb rfl) (ROsub.nil rfl rfl) rfl ?_
    change GG _ _ _ _ _ _ _ _ _ (w_X8_wants c_told c_wish u_askers u_places u_above u_below u_full u_firsts u_freed u_whole) [some (.ref 0), some (.int v1), some (.int v2), some (.int v3), some (.int v4), some (.int s0)] [.int r3]
    refine G_aload_n dX8_wants_58 rfl rfl ?_
    refine G_iload_n dX8_wants_59 rfl rfl ?_
    refine G_aload_n dX8_wants_60 rfl rfl ?_
    refine G_get (v := .ref 1) F_X8_16 dX8_wants_61 rfl rfl ?_
    refine G_bipush 8 dX8_wants_64 (by decide) ?_
    refine G_iload_n dX8_wants_66 rfl rfl ?_
    refine G_imul dX8_wants_67 ?_
    refine G_iload_n dX8_wants_68 rfl rfl ?_
    refine G_iadd dX8_wants_69 ?_
    obtain ⟨t5, ht5, hf⟩ := ob hf
    refine G_iald dX8_wants_70 rfl ht5 ?_
    obtain ⟨r6, hc7, hf⟩ := ob hf
    refine G_callV (μ2 := mu_X8_worthOf) (As := [.int v3, .int t5]) (w2 := (w_X8_wants c_told c_wish u_askers u_places u_above u_below u_full u_firsts u_freed u_whole)) (wc := (w_X8_worthOf c_wish u_askers u_places u_above u_below u_full u_firsts u_freed u_whole)) (wc2 := (w_X8_worthOf c_wish u_askers u_places u_above u_below u_full u_firsts u_freed u_whole)) (rest := [.int r3]) (rv := [.int r6]) [0, 2] [1000, 1, 1001, 1002, 1003, 1004, 1005, 1006, 1007, 1008, 1009, 1010, 1011, 1012, 1013, 1014, 1015, 1016, 1017, 1018] [1] [1, 0, 2] (c_X8_worthOf hc7) cw_X8_worthOf m_X8_111 dX8_wants_71 rfl ⟨leb rfl, leb rfl⟩ ⟨rfl, rfl⟩ rfl ⟨_, rfl, rfl⟩ (Fit.mk rfl rfl rfl) rfl (leb rfl) (ROsub.nil rfl rfl) rfl ?_
    change GG _ _ _ _ _ _ _ _ _ (w_X8_wants c_told c_wish u_askers u_places u_above u_below u_full u_firsts u_freed u_whole) [some (.ref 0), some (.int v1), some (.int v2), some (.int v3), some (.int v4), some (.int s0)] [.int r6, .int r3]
    refine G_icmp_ge 81 dX8_wants_74 (by decide) (fun h8 => ?_) (fun h8 => ?_)
    · replace hf := ob_t h8 hf
      refine G_iconst 0 dX8_wants_81 (by decide) ?_
      obtain rfl := os hf
      exact G_zreturn dX8_wants_82 rfl z_0
    · replace hf := ob_f h8 hf
      refine G_iconst 1 dX8_wants_77 (by decide) ?_
      refine G_goto 82 dX8_wants_78 (by decide) ?_
      obtain rfl := os hf
      exact G_zreturn dX8_wants_82 rfl z_1
def f_X8_wants_33 (N : Nat) (c_told : Nat → Int32) (c_wish : Nat → Int32) (v1 : Int32) (v2 : Int32) (v3 : Int32) (v4 : Int32) : Option (Int32) :=
    f_X8_wants_34 N c_told c_wish v1 v2 v3 v4 0
set_option maxHeartbeats 4000000 in
set_option maxRecDepth 100000 in
theorem g_X8_wants_33 {κ : KC} {ω : KW} {A : Nat → Prop} {ad : Nat → Nat} {u_askers : Int32} {u_places : Int32} {u_above : Int64} {u_below : Int64} {u_full : Int32} {u_firsts : Int32} {u_freed : Int32} {u_whole : Int64} {N : Nat} {c_told : Nat → Int32} {c_wish : Nat → Int32}  {res : Int32} {v1 : Int32} {v2 : Int32} {v3 : Int32} {v4 : Int32} (hf : f_X8_wants_33 N c_told c_wish v1 v2 v3 v4 = some res) : GG mu_X8_wants κ ω A (QR κ ω A ad (some (.int res)) (w_X8_wants c_told c_wish u_askers u_places u_above u_below u_full u_firsts u_freed u_whole)) ad 0 0 33 (w_X8_wants c_told c_wish u_askers u_places u_above u_below u_full u_firsts u_freed u_whole) [some (.ref 0), some (.int v1), some (.int v2), some (.int v3), some (.int v4), none] [] := by
  refine G_iconst 0 dX8_wants_33 (by decide) ?_
  exact g_X8_wants_34 hf
def f_X8_wants (N : Nat) (c_told : Nat → Int32) (c_wish : Nat → Int32) (a1 : Int32) (a2 : Int32) (a3 : Int32) (a4 : Int32) : Option (Int32) :=
  (rdI 32 c_told ((8 * a2) + a3)).bind fun t1 =>
  (if t1 ≤ 0 then
    f_X8_wants_33 N c_told c_wish a1 a2 a3 a4
  else
    (rdI 32 c_told ((8 * a2) + a4)).bind fun t3 =>
    (if t3 ≤ 0 then
      f_X8_wants_33 N c_told c_wish a1 a2 a3 a4
    else
      f_X8_wants_34 N c_told c_wish a1 a2 a3 a4 1))
set_option maxHeartbeats 4000000 in
set_option maxRecDepth 100000 in
theorem c_X8_wants {N : Nat} {c_told : Nat → Int32} {c_wish : Nat → Int32}  {u_askers : Int32} {u_places : Int32} {u_above : Int64} {u_below : Int64} {u_full : Int32} {u_firsts : Int32} {u_freed : Int32} {u_whole : Int64} {a1 : Int32} {a2 : Int32} {a3 : Int32} {a4 : Int32} {res : Int32} (hf : f_X8_wants N c_told c_wish a1 a2 a3 a4 = some res) : Con mu_X8_wants [.ref 0, .int a1, .int a2, .int a3, .int a4] (w_X8_wants c_told c_wish u_askers u_places u_above u_below u_full u_firsts u_freed u_whole) (some (.int res)) (w_X8_wants c_told c_wish u_askers u_places u_above u_below u_full u_firsts u_freed u_whole) := by
  refine Con.mk (show plainName RX8 = true by decide +kernel) (leb rfl) (fun κ ω A ad => ?_)
  change GG mu_X8_wants κ ω A (QR κ ω A ad (some (.int res)) (w_X8_wants c_told c_wish u_askers u_places u_above u_below u_full u_firsts u_freed u_whole)) ad 0 0 0 (w_X8_wants c_told c_wish u_askers u_places u_above u_below u_full u_firsts u_freed u_whole) [some (.ref 0), some (.int a1), some (.int a2), some (.int a3), some (.int a4), none] []
  refine G_aload_n dX8_wants_0 rfl rfl ?_
  refine G_get (v := .ref 1) F_X8_16 dX8_wants_1 rfl rfl ?_
  refine G_bipush 8 dX8_wants_4 (by decide) ?_
  refine G_iload_n dX8_wants_6 rfl rfl ?_
  refine G_imul dX8_wants_7 ?_
  refine G_iload_n dX8_wants_8 rfl rfl ?_
  refine G_iadd dX8_wants_9 ?_
  obtain ⟨t1, ht1, hf⟩ := ob hf
  refine G_iald dX8_wants_10 rfl ht1 ?_
  refine G_if_le 33 dX8_wants_11 (by decide) (fun h2 => ?_) (fun h2 => ?_)
  · replace hf := ob_t h2 hf
    exact g_X8_wants_33 hf
  · replace hf := ob_f h2 hf
    refine G_aload_n dX8_wants_14 rfl rfl ?_
    refine G_get (v := .ref 1) F_X8_16 dX8_wants_15 rfl rfl ?_
    refine G_bipush 8 dX8_wants_18 (by decide) ?_
    refine G_iload_n dX8_wants_20 rfl rfl ?_
    refine G_imul dX8_wants_21 ?_
    refine G_iload dX8_wants_22 rfl ?_
    refine G_iadd dX8_wants_24 ?_
    obtain ⟨t3, ht3, hf⟩ := ob hf
    refine G_iald dX8_wants_25 rfl ht3 ?_
    refine G_if_le 33 dX8_wants_26 (by decide) (fun h4 => ?_) (fun h4 => ?_)
    · replace hf := ob_t h4 hf
      exact g_X8_wants_33 hf
    · replace hf := ob_f h4 hf
      refine G_iconst 1 dX8_wants_29 (by decide) ?_
      refine G_goto 34 dX8_wants_30 (by decide) ?_
      exact g_X8_wants_34 hf
set_option maxRecDepth 20000 in
theorem dX8_findCan_0 : decode cX8_findCan 0 = .ok (.iconst 1, 1) := by decide +kernel
set_option maxRecDepth 20000 in
theorem dX8_findCan_1 : decode cX8_findCan 1 = .ok (.istore 5, 2) := by decide +kernel
set_option maxRecDepth 20000 in
theorem dX8_findCan_3 : decode cX8_findCan 3 = .ok (.iload 5, 2) := by decide +kernel
set_option maxRecDepth 20000 in
theorem dX8_findCan_5 : decode cX8_findCan 5 = .ok (.iload 4, 2) := by decide +kernel
set_option maxRecDepth 20000 in
theorem dX8_findCan_7 : decode cX8_findCan 7 = .ok (.if_icmp .gt 144, 3) := by decide +kernel
set_option maxRecDepth 20000 in
theorem dX8_findCan_10 : decode cX8_findCan 10 = .ok (.iload_n 3, 1) := by decide +kernel
set_option maxRecDepth 20000 in
theorem dX8_findCan_11 : decode cX8_findCan 11 = .ok (.istore 6, 2) := by decide +kernel
set_option maxRecDepth 20000 in
theorem dX8_findCan_13 : decode cX8_findCan 13 = .ok (.iload 6, 2) := by decide +kernel
set_option maxRecDepth 20000 in
theorem dX8_findCan_15 : decode cX8_findCan 15 = .ok (.aload_n 0, 1) := by decide +kernel
set_option maxRecDepth 20000 in
theorem dX8_findCan_16 : decode cX8_findCan 16 = .ok (.getfield 89, 3) := by decide +kernel
set_option maxRecDepth 20000 in
theorem dX8_findCan_19 : decode cX8_findCan 19 = .ok (.if_icmp .ge 126, 3) := by decide +kernel
set_option maxRecDepth 20000 in
theorem dX8_findCan_22 : decode cX8_findCan 22 = .ok (.iconst 0, 1) := by decide +kernel
set_option maxRecDepth 20000 in
theorem dX8_findCan_23 : decode cX8_findCan 23 = .ok (.istore 7, 2) := by decide +kernel
set_option maxRecDepth 20000 in
theorem dX8_findCan_25 : decode cX8_findCan 25 = .ok (.iload_n 3, 1) := by decide +kernel
set_option maxRecDepth 20000 in
theorem dX8_findCan_26 : decode cX8_findCan 26 = .ok (.istore 8, 2) := by decide +kernel
set_option maxRecDepth 20000 in
theorem dX8_findCan_28 : decode cX8_findCan 28 = .ok (.iload 8, 2) := by decide +kernel
set_option maxRecDepth 20000 in
theorem dX8_findCan_30 : decode cX8_findCan 30 = .ok (.aload_n 0, 1) := by decide +kernel
set_option maxRecDepth 20000 in
theorem dX8_findCan_31 : decode cX8_findCan 31 = .ok (.getfield 89, 3) := by decide +kernel
set_option maxRecDepth 20000 in
theorem dX8_findCan_34 : decode cX8_findCan 34 = .ok (.if_icmp .ge 90, 3) := by decide +kernel
set_option maxRecDepth 20000 in
theorem dX8_findCan_37 : decode cX8_findCan 37 = .ok (.iload 5, 2) := by decide +kernel
set_option maxRecDepth 20000 in
theorem dX8_findCan_39 : decode cX8_findCan 39 = .ok (.iconst 1, 1) := by decide +kernel
set_option maxRecDepth 20000 in
theorem dX8_findCan_40 : decode cX8_findCan 40 = .ok (.if_icmp .ne 17, 3) := by decide +kernel
set_option maxRecDepth 20000 in
theorem dX8_findCan_43 : decode cX8_findCan 43 = .ok (.iload 8, 2) := by decide +kernel
set_option maxRecDepth 20000 in
theorem dX8_findCan_45 : decode cX8_findCan 45 = .ok (.iload_n 3, 1) := by decide +kernel
set_option maxRecDepth 20000 in
theorem dX8_findCan_46 : decode cX8_findCan 46 = .ok (.if_icmp .ne 7, 3) := by decide +kernel
set_option maxRecDepth 20000 in
theorem dX8_findCan_49 : decode cX8_findCan 49 = .ok (.iconst 1, 1) := by decide +kernel
set_option maxRecDepth 20000 in
theorem dX8_findCan_50 : decode cX8_findCan 50 = .ok (.goto 36, 3) := by decide +kernel
set_option maxRecDepth 20000 in
theorem dX8_findCan_53 : decode cX8_findCan 53 = .ok (.iconst 0, 1) := by decide +kernel
set_option maxRecDepth 20000 in
theorem dX8_findCan_54 : decode cX8_findCan 54 = .ok (.goto 32, 3) := by decide +kernel
set_option maxRecDepth 20000 in
theorem dX8_findCan_57 : decode cX8_findCan 57 = .ok (.iload 8, 2) := by decide +kernel
set_option maxRecDepth 20000 in
theorem dX8_findCan_59 : decode cX8_findCan 59 = .ok (.iload_n 3, 1) := by decide +kernel
set_option maxRecDepth 20000 in
theorem dX8_findCan_60 : decode cX8_findCan 60 = .ok (.if_icmp .le 25, 3) := by decide +kernel
set_option maxRecDepth 20000 in
theorem dX8_findCan_63 : decode cX8_findCan 63 = .ok (.aload_n 0, 1) := by decide +kernel
set_option maxRecDepth 20000 in
theorem dX8_findCan_64 : decode cX8_findCan 64 = .ok (.getfield 58, 3) := by decide +kernel
set_option maxRecDepth 20000 in
theorem dX8_findCan_67 : decode cX8_findCan 67 = .ok (.bipush 8, 2) := by decide +kernel
set_option maxRecDepth 20000 in
theorem dX8_findCan_69 : decode cX8_findCan 69 = .ok (.iload 5, 2) := by decide +kernel
set_option maxRecDepth 20000 in
theorem dX8_findCan_71 : decode cX8_findCan 71 = .ok (.iconst 1, 1) := by decide +kernel
set_option maxRecDepth 20000 in
theorem dX8_findCan_72 : decode cX8_findCan 72 = .ok (.isub, 1) := by decide +kernel
set_option maxRecDepth 20000 in
theorem dX8_findCan_73 : decode cX8_findCan 73 = .ok (.imul, 1) := by decide +kernel
set_option maxRecDepth 20000 in
theorem dX8_findCan_74 : decode cX8_findCan 74 = .ok (.iload 8, 2) := by decide +kernel
set_option maxRecDepth 20000 in
theorem dX8_findCan_76 : decode cX8_findCan 76 = .ok (.iadd, 1) := by decide +kernel
set_option maxRecDepth 20000 in
theorem dX8_findCan_77 : decode cX8_findCan 77 = .ok (.baload, 1) := by decide +kernel
set_option maxRecDepth 20000 in
theorem dX8_findCan_78 : decode cX8_findCan 78 = .ok (.ifCond .eq 7, 3) := by decide +kernel
set_option maxRecDepth 20000 in
theorem dX8_findCan_81 : decode cX8_findCan 81 = .ok (.iconst 1, 1) := by decide +kernel
set_option maxRecDepth 20000 in
theorem dX8_findCan_82 : decode cX8_findCan 82 = .ok (.goto 4, 3) := by decide +kernel
set_option maxRecDepth 20000 in
theorem dX8_findCan_85 : decode cX8_findCan 85 = .ok (.iconst 0, 1) := by decide +kernel
set_option maxRecDepth 20000 in
theorem dX8_findCan_86 : decode cX8_findCan 86 = .ok (.istore 9, 2) := by decide +kernel
set_option maxRecDepth 20000 in
theorem dX8_findCan_88 : decode cX8_findCan 88 = .ok (.iload 7, 2) := by decide +kernel
set_option maxRecDepth 20000 in
theorem dX8_findCan_90 : decode cX8_findCan 90 = .ok (.ifCond .ne 21, 3) := by decide +kernel
set_option maxRecDepth 20000 in
theorem dX8_findCan_93 : decode cX8_findCan 93 = .ok (.iload 9, 2) := by decide +kernel
set_option maxRecDepth 20000 in
theorem dX8_findCan_95 : decode cX8_findCan 95 = .ok (.ifCond .eq 20, 3) := by decide +kernel
set_option maxRecDepth 20000 in
theorem dX8_findCan_98 : decode cX8_findCan 98 = .ok (.aload_n 0, 1) := by decide +kernel
set_option maxRecDepth 20000 in
theorem dX8_findCan_99 : decode cX8_findCan 99 = .ok (.iload_n 1, 1) := by decide +kernel
set_option maxRecDepth 20000 in
theorem dX8_findCan_100 : decode cX8_findCan 100 = .ok (.iload_n 2, 1) := by decide +kernel
set_option maxRecDepth 20000 in
theorem dX8_findCan_101 : decode cX8_findCan 101 = .ok (.iload 6, 2) := by decide +kernel
set_option maxRecDepth 20000 in
theorem dX8_findCan_103 : decode cX8_findCan 103 = .ok (.iload 8, 2) := by decide +kernel
set_option maxRecDepth 20000 in
theorem dX8_findCan_105 : decode cX8_findCan 105 = .ok (.invokevirtual 210, 3) := by decide +kernel
set_option maxRecDepth 20000 in
theorem dX8_findCan_108 : decode cX8_findCan 108 = .ok (.ifCond .eq 7, 3) := by decide +kernel
set_option maxRecDepth 20000 in
theorem dX8_findCan_111 : decode cX8_findCan 111 = .ok (.iconst 1, 1) := by decide +kernel
set_option maxRecDepth 20000 in
theorem dX8_findCan_112 : decode cX8_findCan 112 = .ok (.goto 4, 3) := by decide +kernel
set_option maxRecDepth 20000 in
theorem dX8_findCan_115 : decode cX8_findCan 115 = .ok (.iconst 0, 1) := by decide +kernel
set_option maxRecDepth 20000 in
theorem dX8_findCan_116 : decode cX8_findCan 116 = .ok (.istore 7, 2) := by decide +kernel
set_option maxRecDepth 20000 in
theorem dX8_findCan_118 : decode cX8_findCan 118 = .ok (.iinc 8 1, 3) := by decide +kernel
set_option maxRecDepth 20000 in
theorem dX8_findCan_121 : decode cX8_findCan 121 = .ok (.goto (-93), 3) := by decide +kernel
set_option maxRecDepth 20000 in
theorem dX8_findCan_124 : decode cX8_findCan 124 = .ok (.aload_n 0, 1) := by decide +kernel
set_option maxRecDepth 20000 in
theorem dX8_findCan_125 : decode cX8_findCan 125 = .ok (.getfield 58, 3) := by decide +kernel
set_option maxRecDepth 20000 in
theorem dX8_findCan_128 : decode cX8_findCan 128 = .ok (.bipush 8, 2) := by decide +kernel
set_option maxRecDepth 20000 in
theorem dX8_findCan_130 : decode cX8_findCan 130 = .ok (.iload 5, 2) := by decide +kernel
set_option maxRecDepth 20000 in
theorem dX8_findCan_132 : decode cX8_findCan 132 = .ok (.imul, 1) := by decide +kernel
set_option maxRecDepth 20000 in
theorem dX8_findCan_133 : decode cX8_findCan 133 = .ok (.iload 6, 2) := by decide +kernel
set_option maxRecDepth 20000 in
theorem dX8_findCan_135 : decode cX8_findCan 135 = .ok (.iadd, 1) := by decide +kernel
set_option maxRecDepth 20000 in
theorem dX8_findCan_136 : decode cX8_findCan 136 = .ok (.iload 7, 2) := by decide +kernel
set_option maxRecDepth 20000 in
theorem dX8_findCan_138 : decode cX8_findCan 138 = .ok (.bastore, 1) := by decide +kernel
set_option maxRecDepth 20000 in
theorem dX8_findCan_139 : decode cX8_findCan 139 = .ok (.iinc 6 1, 3) := by decide +kernel
set_option maxRecDepth 20000 in
theorem dX8_findCan_142 : decode cX8_findCan 142 = .ok (.goto (-129), 3) := by decide +kernel
set_option maxRecDepth 20000 in
theorem dX8_findCan_145 : decode cX8_findCan 145 = .ok (.iinc 5 1, 3) := by decide +kernel
set_option maxRecDepth 20000 in
theorem dX8_findCan_148 : decode cX8_findCan 148 = .ok (.goto (-145), 3) := by decide +kernel
set_option maxRecDepth 20000 in
theorem dX8_findCan_151 : decode cX8_findCan 151 = .ok (.aload_n 0, 1) := by decide +kernel
set_option maxRecDepth 20000 in
theorem dX8_findCan_152 : decode cX8_findCan 152 = .ok (.getfield 58, 3) := by decide +kernel
set_option maxRecDepth 20000 in
theorem dX8_findCan_155 : decode cX8_findCan 155 = .ok (.bipush 8, 2) := by decide +kernel
set_option maxRecDepth 20000 in
theorem dX8_findCan_157 : decode cX8_findCan 157 = .ok (.iload 4, 2) := by decide +kernel
set_option maxRecDepth 20000 in
theorem dX8_findCan_159 : decode cX8_findCan 159 = .ok (.imul, 1) := by decide +kernel
set_option maxRecDepth 20000 in
theorem dX8_findCan_160 : decode cX8_findCan 160 = .ok (.iload_n 3, 1) := by decide +kernel
set_option maxRecDepth 20000 in
theorem dX8_findCan_161 : decode cX8_findCan 161 = .ok (.iadd, 1) := by decide +kernel
set_option maxRecDepth 20000 in
theorem dX8_findCan_162 : decode cX8_findCan 162 = .ok (.baload, 1) := by decide +kernel
set_option maxRecDepth 20000 in
theorem dX8_findCan_163 : decode cX8_findCan 163 = .ok (.ireturn, 1) := by decide +kernel
def f_X8_findCan_86 (N : Nat) (c_askers : Int32) (c_told : Nat → Int32) (c_wish : Nat → Int32) (k28 : (Nat → Int32) → Int32 → Int32 → Int32 → Int32 → Int32 → Int32 → Int32 → Int32 → Option (Int32 × (Nat → Int32))) (c_can : Nat → Int32) (v1 : Int32) (v2 : Int32) (v3 : Int32) (v4 : Int32) (v5 : Int32) (v6 : Int32) (v7 : Int32) (v8 : Int32) (s0 : Int32) : Option (Int32 × (Nat → Int32)) :=
    (if v7 = 0 then
      (if s0 = 0 then
        k28 c_can v1 v2 v3 v4 v5 v6 0 (v8 + 1)
      else
        (f_X8_wants N c_told c_wish v1 v2 v6 v8).bind fun r3 =>
        (if r3 = 0 then
          k28 c_can v1 v2 v3 v4 v5 v6 0 (v8 + 1)
        else
          k28 c_can v1 v2 v3 v4 v5 v6 1 (v8 + 1)))
    else
      k28 c_can v1 v2 v3 v4 v5 v6 1 (v8 + 1))
set_option maxHeartbeats 4000000 in
set_option maxRecDepth 100000 in
theorem g_X8_findCan_86 {κ : KC} {ω : KW} {A : Nat → Prop} {ad : Nat → Nat} {u_places : Int32} {u_above : Int64} {u_below : Int64} {u_full : Int32} {u_firsts : Int32} {u_freed : Int32} {u_whole : Int64} {N : Nat} {c_askers : Int32} {c_told : Nat → Int32} {c_wish : Nat → Int32}  {k28 : (Nat → Int32) → Int32 → Int32 → Int32 → Int32 → Int32 → Int32 → Int32 → Int32 → Option (Int32 × (Nat → Int32))} {res : Int32 × (Nat → Int32)} (hk28 : ∀ {c_can : Nat → Int32} {v1 : Int32} {v2 : Int32} {v3 : Int32} {v4 : Int32} {v5 : Int32} {v6 : Int32} {v7 : Int32} {v8 : Int32}, k28 c_can v1 v2 v3 v4 v5 v6 v7 v8 = some res → GG mu_X8_findCan κ ω A (QR κ ω A ad (some (.int res.1)) (w_X8_findCan c_askers res.2 c_told c_wish u_places u_above u_below u_full u_firsts u_freed u_whole)) ad 0 0 28 (w_X8_findCan c_askers c_can c_told c_wish u_places u_above u_below u_full u_firsts u_freed u_whole) [some (.ref 0), some (.int v1), some (.int v2), some (.int v3), some (.int v4), some (.int v5), some (.int v6), some (.int v7), some (.int v8), none] []) {c_can : Nat → Int32} {v1 : Int32} {v2 : Int32} {v3 : Int32} {v4 : Int32} {v5 : Int32} {v6 : Int32} {v7 : Int32} {v8 : Int32} {s0 : Int32} (hf : f_X8_findCan_86 N c_askers c_told c_wish k28 c_can v1 v2 v3 v4 v5 v6 v7 v8 s0 = some res) : GG mu_X8_findCan κ ω A (QR κ ω A ad (some (.int res.1)) (w_X8_findCan c_askers res.2 c_told c_wish u_places u_above u_below u_full u_firsts u_freed u_whole)) ad 0 0 86 (w_X8_findCan c_askers c_can c_told c_wish u_places u_above u_below u_full u_firsts u_freed u_whole) [some (.ref 0), some (.int v1), some (.int v2), some (.int v3), some (.int v4), some (.int v5), some (.int v6), some (.int v7), some (.int v8), none] [.int s0] := by
  refine G_istore dX8_findCan_86 (ltb rfl) ?_
  change GG _ _ _ _ _ _ _ _ _ _ [some (.ref 0), some (.int v1), some (.int v2), some (.int v3), some (.int v4), some (.int v5), some (.int v6), some (.int v7), some (.int v8), some (.int s0)] _
  refine G_iload dX8_findCan_88 rfl ?_
  refine G_if_ne 111 dX8_findCan_90 (by decide) (fun h1 => ?_) (fun h1 => ?_)
  · replace hf := ob_f h1 hf
    refine G_iconst 1 dX8_findCan_111 (by decide) ?_
    refine G_goto 116 dX8_findCan_112 (by decide) ?_
    refine G_istore dX8_findCan_116 (ltb rfl) ?_
    change GG _ _ _ _ _ _ _ _ _ _ [some (.ref 0), some (.int v1), some (.int v2), some (.int v3), some (.int v4), some (.int v5), some (.int v6), some (.int 1), some (.int v8), some (.int s0)] _
    refine G_iinc 1 dX8_findCan_118 (by decide) rfl (ltb rfl) ?_
    change GG _ _ _ _ _ _ _ _ _ _ [some (.ref 0), some (.int v1), some (.int v2), some (.int v3), some (.int v4), some (.int v5), some (.int v6), some (.int 1), some (.int (v8 + 1)), some (.int s0)] _
    refine G_goto 28 dX8_findCan_121 (by decide) ?_
    refine GG.sb (lv2 := [some (.ref 0), some (.int v1), some (.int v2), some (.int v3), some (.int v4), some (.int v5), some (.int v6), some (.int 1), some (.int (v8 + 1)), none]) ?_ (lvS_v rfl (lvS_v rfl (lvS_v rfl (lvS_v rfl (lvS_v rfl (lvS_v rfl (lvS_v rfl (lvS_v rfl (lvS_v rfl (lvS_n (lvS_e)))))))))))
    exact hk28 hf
  · replace hf := ob_t h1 hf
    refine G_iload dX8_findCan_93 rfl ?_
    refine G_if_eq 115 dX8_findCan_95 (by decide) (fun h2 => ?_) (fun h2 => ?_)
    · replace hf := ob_t h2 hf
      refine G_iconst 0 dX8_findCan_115 (by decide) ?_
      refine G_istore dX8_findCan_116 (ltb rfl) ?_
      change GG _ _ _ _ _ _ _ _ _ _ [some (.ref 0), some (.int v1), some (.int v2), some (.int v3), some (.int v4), some (.int v5), some (.int v6), some (.int 0), some (.int v8), some (.int s0)] _
      refine G_iinc 1 dX8_findCan_118 (by decide) rfl (ltb rfl) ?_
      change GG _ _ _ _ _ _ _ _ _ _ [some (.ref 0), some (.int v1), some (.int v2), some (.int v3), some (.int v4), some (.int v5), some (.int v6), some (.int 0), some (.int (v8 + 1)), some (.int s0)] _
      refine G_goto 28 dX8_findCan_121 (by decide) ?_
      refine GG.sb (lv2 := [some (.ref 0), some (.int v1), some (.int v2), some (.int v3), some (.int v4), some (.int v5), some (.int v6), some (.int 0), some (.int (v8 + 1)), none]) ?_ (lvS_v rfl (lvS_v rfl (lvS_v rfl (lvS_v rfl (lvS_v rfl (lvS_v rfl (lvS_v rfl (lvS_v rfl (lvS_v rfl (lvS_n (lvS_e)))))))))))
      exact hk28 hf
    · replace hf := ob_f h2 hf
      refine G_aload_n dX8_findCan_98 rfl rfl ?_
      refine G_iload_n dX8_findCan_99 rfl rfl ?_
      refine G_iload_n dX8_findCan_100 rfl rfl ?_
      refine G_iload dX8_findCan_101 rfl ?_
      refine G_iload dX8_findCan_103 rfl ?_
      obtain ⟨r3, hc4, hf⟩ := ob hf
      refine G_callV (μ2 := mu_X8_wants) (As := [.int v1, .int v2, .int v6, .int v8]) (w2 := (w_X8_findCan c_askers c_can c_told c_wish u_places u_above u_below u_full u_firsts u_freed u_whole)) (wc := (w_X8_wants c_told c_wish c_askers u_places u_above u_below u_full u_firsts u_freed u_whole)) (wc2 := (w_X8_wants c_told c_wish c_askers u_places u_above u_below u_full u_firsts u_freed u_whole)) (rest := []) (rv := [.int r3]) [0, 2, 3] [1000, 1001, 1002, 1003, 1004, 1005, 1006, 1007, 1008, 1009, 1010, 1011, 1012, 1, 1013, 1014, 1015, 1016, 1017] [1] [1, 0, 2, 3] (c_X8_wants hc4) cw_X8_wants m_X8_210 dX8_findCan_105 rfl ⟨leb rfl, leb rfl⟩ ⟨rfl, rfl⟩ rfl ⟨_, rfl, rfl⟩ (Fit.mk rfl rfl rfl) rfl (leb rfl) (ROsub.nil rfl rfl) rfl ?_
      change GG _ _ _ _ _ _ _ _ _ (w_X8_findCan c_askers c_can c_told c_wish u_places u_above u_below u_full u_firsts u_freed u_whole) [some (.ref 0), some (.int v1), some (.int v2), some (.int v3), some (.int v4), some (.int v5), some (.int v6), some (.int v7), some (.int v8), some (.int s0)] [.int r3]
      refine G_if_eq 115 dX8_findCan_108 (by decide) (fun h5 => ?_) (fun h5 => ?_)
      · replace hf := ob_t h5 hf
        refine G_iconst 0 dX8_findCan_115 (by decide) ?_
        refine G_istore dX8_findCan_116 (ltb rfl) ?_
        change GG _ _ _ _ _ _ _ _ _ _ [some (.ref 0), some (.int v1), some (.int v2), some (.int v3), some (.int v4), some (.int v5), some (.int v6), some (.int 0), some (.int v8), some (.int s0)] _
        refine G_iinc 1 dX8_findCan_118 (by decide) rfl (ltb rfl) ?_
        change GG _ _ _ _ _ _ _ _ _ _ [some (.ref 0), some (.int v1), some (.int v2), some (.int v3), some (.int v4), some (.int v5), some (.int v6), some (.int 0), some (.int (v8 + 1)), some (.int s0)] _
        refine G_goto 28 dX8_findCan_121 (by decide) ?_
        refine GG.sb (lv2 := [some (.ref 0), some (.int v1), some (.int v2), some (.int v3), some (.int v4), some (.int v5), some (.int v6), some (.int 0), some (.int (v8 + 1)), none]) ?_ (lvS_v rfl (lvS_v rfl (lvS_v rfl (lvS_v rfl (lvS_v rfl (lvS_v rfl (lvS_v rfl (lvS_v rfl (lvS_v rfl (lvS_n (lvS_e)))))))))))
        exact hk28 hf
      · replace hf := ob_f h5 hf
        refine G_iconst 1 dX8_findCan_111 (by decide) ?_
        refine G_goto 116 dX8_findCan_112 (by decide) ?_
        refine G_istore dX8_findCan_116 (ltb rfl) ?_
        change GG _ _ _ _ _ _ _ _ _ _ [some (.ref 0), some (.int v1), some (.int v2), some (.int v3), some (.int v4), some (.int v5), some (.int v6), some (.int 1), some (.int v8), some (.int s0)] _
        refine G_iinc 1 dX8_findCan_118 (by decide) rfl (ltb rfl) ?_
        change GG _ _ _ _ _ _ _ _ _ _ [some (.ref 0), some (.int v1), some (.int v2), some (.int v3), some (.int v4), some (.int v5), some (.int v6), some (.int 1), some (.int (v8 + 1)), some (.int s0)] _
        refine G_goto 28 dX8_findCan_121 (by decide) ?_
        refine GG.sb (lv2 := [some (.ref 0), some (.int v1), some (.int v2), some (.int v3), some (.int v4), some (.int v5), some (.int v6), some (.int 1), some (.int (v8 + 1)), none]) ?_ (lvS_v rfl (lvS_v rfl (lvS_v rfl (lvS_v rfl (lvS_v rfl (lvS_v rfl (lvS_v rfl (lvS_v rfl (lvS_v rfl (lvS_n (lvS_e)))))))))))
        exact hk28 hf
def f_X8_findCan_85 (N : Nat) (c_askers : Int32) (c_told : Nat → Int32) (c_wish : Nat → Int32) (k28 : (Nat → Int32) → Int32 → Int32 → Int32 → Int32 → Int32 → Int32 → Int32 → Int32 → Option (Int32 × (Nat → Int32))) (c_can : Nat → Int32) (v1 : Int32) (v2 : Int32) (v3 : Int32) (v4 : Int32) (v5 : Int32) (v6 : Int32) (v7 : Int32) (v8 : Int32) : Option (Int32 × (Nat → Int32)) :=
    f_X8_findCan_86 N c_askers c_told c_wish k28 c_can v1 v2 v3 v4 v5 v6 v7 v8 0
set_option maxHeartbeats 4000000 in
set_option maxRecDepth 100000 in
theorem g_X8_findCan_85 {κ : KC} {ω : KW} {A : Nat → Prop} {ad : Nat → Nat} {u_places : Int32} {u_above : Int64} {u_below : Int64} {u_full : Int32} {u_firsts : Int32} {u_freed : Int32} {u_whole : Int64} {N : Nat} {c_askers : Int32} {c_told : Nat → Int32} {c_wish : Nat → Int32}  {k28 : (Nat → Int32) → Int32 → Int32 → Int32 → Int32 → Int32 → Int32 → Int32 → Int32 → Option (Int32 × (Nat → Int32))} {res : Int32 × (Nat → Int32)} (hk28 : ∀ {c_can : Nat → Int32} {v1 : Int32} {v2 : Int32} {v3 : Int32} {v4 : Int32} {v5 : Int32} {v6 : Int32} {v7 : Int32} {v8 : Int32}, k28 c_can v1 v2 v3 v4 v5 v6 v7 v8 = some res → GG mu_X8_findCan κ ω A (QR κ ω A ad (some (.int res.1)) (w_X8_findCan c_askers res.2 c_told c_wish u_places u_above u_below u_full u_firsts u_freed u_whole)) ad 0 0 28 (w_X8_findCan c_askers c_can c_told c_wish u_places u_above u_below u_full u_firsts u_freed u_whole) [some (.ref 0), some (.int v1), some (.int v2), some (.int v3), some (.int v4), some (.int v5), some (.int v6), some (.int v7), some (.int v8), none] []) {c_can : Nat → Int32} {v1 : Int32} {v2 : Int32} {v3 : Int32} {v4 : Int32} {v5 : Int32} {v6 : Int32} {v7 : Int32} {v8 : Int32} (hf : f_X8_findCan_85 N c_askers c_told c_wish k28 c_can v1 v2 v3 v4 v5 v6 v7 v8 = some res) : GG mu_X8_findCan κ ω A (QR κ ω A ad (some (.int res.1)) (w_X8_findCan c_askers res.2 c_told c_wish u_places u_above u_below u_full u_firsts u_freed u_whole)) ad 0 0 85 (w_X8_findCan c_askers c_can c_told c_wish u_places u_above u_below u_full u_firsts u_freed u_whole) [some (.ref 0), some (.int v1), some (.int v2), some (.int v3), some (.int v4), some (.int v5), some (.int v6), some (.int v7), some (.int v8), none] [] := by
  refine G_iconst 0 dX8_findCan_85 (by decide) ?_
  exact g_X8_findCan_86 hk28 hf
def f_X8_findCan_28 (N : Nat) (c_askers : Int32) (c_told : Nat → Int32) (c_wish : Nat → Int32) (k13 : (Nat → Int32) → Int32 → Int32 → Int32 → Int32 → Int32 → Int32 → Option (Int32 × (Nat → Int32))) : Nat → (Nat → Int32) → Int32 → Int32 → Int32 → Int32 → Int32 → Int32 → Int32 → Int32 → Option (Int32 × (Nat → Int32))
  | 0, _, _, _, _, _, _, _, _, _ => none
  | n + 1, c_can, v1, v2, v3, v4, v5, v6, v7, v8 =>
    (if c_askers ≤ v8 then
      (wrZ 72 c_can ((8 * v5) + v6) v7).bind fun t2 =>
      k13 t2 v1 v2 v3 v4 v5 (v6 + 1)
    else
      (if v5 = 1 then
        (if v8 = v3 then
          f_X8_findCan_86 N c_askers c_told c_wish (f_X8_findCan_28 N c_askers c_told c_wish k13 n) c_can v1 v2 v3 v4 v5 v6 v7 v8 1
        else
          f_X8_findCan_86 N c_askers c_told c_wish (f_X8_findCan_28 N c_askers c_told c_wish k13 n) c_can v1 v2 v3 v4 v5 v6 v7 v8 0)
      else
        (if v8 ≤ v3 then
          f_X8_findCan_85 N c_askers c_told c_wish (f_X8_findCan_28 N c_askers c_told c_wish k13 n) c_can v1 v2 v3 v4 v5 v6 v7 v8
        else
          (rdI 72 c_can ((8 * (v5 - 1)) + v8)).bind fun t5 =>
          (if t5 = 0 then
            f_X8_findCan_85 N c_askers c_told c_wish (f_X8_findCan_28 N c_askers c_told c_wish k13 n) c_can v1 v2 v3 v4 v5 v6 v7 v8
          else
            f_X8_findCan_86 N c_askers c_told c_wish (f_X8_findCan_28 N c_askers c_told c_wish k13 n) c_can v1 v2 v3 v4 v5 v6 v7 v8 1))))
set_option maxHeartbeats 4000000 in
set_option maxRecDepth 100000 in
theorem g_X8_findCan_28 {κ : KC} {ω : KW} {A : Nat → Prop} {ad : Nat → Nat} {u_places : Int32} {u_above : Int64} {u_below : Int64} {u_full : Int32} {u_firsts : Int32} {u_freed : Int32} {u_whole : Int64} {N : Nat} {c_askers : Int32} {c_told : Nat → Int32} {c_wish : Nat → Int32}  {k13 : (Nat → Int32) → Int32 → Int32 → Int32 → Int32 → Int32 → Int32 → Option (Int32 × (Nat → Int32))} {res : Int32 × (Nat → Int32)} (hk13 : ∀ {c_can : Nat → Int32} {v1 : Int32} {v2 : Int32} {v3 : Int32} {v4 : Int32} {v5 : Int32} {v6 : Int32}, k13 c_can v1 v2 v3 v4 v5 v6 = some res → GG mu_X8_findCan κ ω A (QR κ ω A ad (some (.int res.1)) (w_X8_findCan c_askers res.2 c_told c_wish u_places u_above u_below u_full u_firsts u_freed u_whole)) ad 0 0 13 (w_X8_findCan c_askers c_can c_told c_wish u_places u_above u_below u_full u_firsts u_freed u_whole) [some (.ref 0), some (.int v1), some (.int v2), some (.int v3), some (.int v4), some (.int v5), some (.int v6), none, none, none] []) : ∀ (n : Nat) {c_can : Nat → Int32} {v1 : Int32} {v2 : Int32} {v3 : Int32} {v4 : Int32} {v5 : Int32} {v6 : Int32} {v7 : Int32} {v8 : Int32}, f_X8_findCan_28 N c_askers c_told c_wish k13 n c_can v1 v2 v3 v4 v5 v6 v7 v8 = some res → GG mu_X8_findCan κ ω A (QR κ ω A ad (some (.int res.1)) (w_X8_findCan c_askers res.2 c_told c_wish u_places u_above u_below u_full u_firsts u_freed u_whole)) ad 0 0 28 (w_X8_findCan c_askers c_can c_told c_wish u_places u_above u_below u_full u_firsts u_freed u_whole) [some (.ref 0), some (.int v1), some (.int v2), some (.int v3), some (.int v4), some (.int v5), some (.int v6), some (.int v7), some (.int v8), none] [] := by
  intro n
  induction n with
  | zero => intro c_can v1 v2 v3 v4 v5 v6 v7 v8 hf; exact ob_0 hf
  | succ n ih =>
    intro c_can v1 v2 v3 v4 v5 v6 v7 v8 hf
    refine G_iload dX8_findCan_28 rfl ?_
    refine G_aload_n dX8_findCan_30 rfl rfl ?_
    refine G_get (v := .int c_askers) F_X8_89 dX8_findCan_31 rfl rfl ?_
    refine G_icmp_ge 124 dX8_findCan_34 (by decide) (fun h1 => ?_) (fun h1 => ?_)
    · replace hf := ob_t h1 hf
      refine G_aload_n dX8_findCan_124 rfl rfl ?_
      refine G_get (v := .ref 1) F_X8_58 dX8_findCan_125 rfl rfl ?_
      refine G_bipush 8 dX8_findCan_128 (by decide) ?_
      refine G_iload dX8_findCan_130 rfl ?_
      refine G_imul dX8_findCan_132 ?_
      refine G_iload dX8_findCan_133 rfl ?_
      refine G_iadd dX8_findCan_135 ?_
      refine G_iload dX8_findCan_136 rfl ?_
      obtain ⟨t2, ht2, hf⟩ := ob hf
      refine G_zast (w2 := (w_X8_findCan c_askers t2 c_told c_wish u_places u_above u_below u_full u_firsts u_freed u_whole)) dX8_findCan_138 rfl ht2 rfl ?_
      refine G_iinc 1 dX8_findCan_139 (by decide) rfl (ltb rfl) ?_
      change GG _ _ _ _ _ _ _ _ _ _ [some (.ref 0), some (.int v1), some (.int v2), some (.int v3), some (.int v4), some (.int v5), some (.int (v6 + 1)), some (.int v7), some (.int v8), none] _
      refine G_goto 13 dX8_findCan_142 (by decide) ?_
      refine GG.sb (lv2 := [some (.ref 0), some (.int v1), some (.int v2), some (.int v3), some (.int v4), some (.int v5), some (.int (v6 + 1)), none, none, none]) ?_ (lvS_v rfl (lvS_v rfl (lvS_v rfl (lvS_v rfl (lvS_v rfl (lvS_v rfl (lvS_v rfl (lvS_n (lvS_n (lvS_n (lvS_e)))))))))))
      exact hk13 hf
    · replace hf := ob_f h1 hf
      refine G_iload dX8_findCan_37 rfl ?_
      refine G_iconst 1 dX8_findCan_39 (by decide) ?_
      refine G_icmp_ne 57 dX8_findCan_40 (by decide) (fun h3 => ?_) (fun h3 => ?_)
      · replace hf := ob_f h3 hf
        refine G_iload dX8_findCan_57 rfl ?_
        refine G_iload_n dX8_findCan_59 rfl rfl ?_
        refine G_icmp_le 85 dX8_findCan_60 (by decide) (fun h4 => ?_) (fun h4 => ?_)
        · replace hf := ob_t h4 hf
          exact g_X8_findCan_85 ih hf
        · replace hf := ob_f h4 hf
          refine G_aload_n dX8_findCan_63 rfl rfl ?_
          refine G_get (v := .ref 1) F_X8_58 dX8_findCan_64 rfl rfl ?_
          refine G_bipush 8 dX8_findCan_67 (by decide) ?_
          refine G_iload dX8_findCan_69 rfl ?_
          refine G_iconst 1 dX8_findCan_71 (by decide) ?_
          refine G_isub dX8_findCan_72 ?_
          refine G_imul dX8_findCan_73 ?_
          refine G_iload dX8_findCan_74 rfl ?_
          refine G_iadd dX8_findCan_76 ?_
          obtain ⟨t5, ht5, hf⟩ := ob hf
          refine G_zald dX8_findCan_77 rfl ht5 ?_
          refine G_if_eq 85 dX8_findCan_78 (by decide) (fun h6 => ?_) (fun h6 => ?_)
          · replace hf := ob_t h6 hf
            exact g_X8_findCan_85 ih hf
          · replace hf := ob_f h6 hf
            refine G_iconst 1 dX8_findCan_81 (by decide) ?_
            refine G_goto 86 dX8_findCan_82 (by decide) ?_
            exact g_X8_findCan_86 ih hf
      · replace hf := ob_t h3 hf
        refine G_iload dX8_findCan_43 rfl ?_
        refine G_iload_n dX8_findCan_45 rfl rfl ?_
        refine G_icmp_ne 53 dX8_findCan_46 (by decide) (fun h7 => ?_) (fun h7 => ?_)
        · replace hf := ob_f h7 hf
          refine G_iconst 0 dX8_findCan_53 (by decide) ?_
          refine G_goto 86 dX8_findCan_54 (by decide) ?_
          exact g_X8_findCan_86 ih hf
        · replace hf := ob_t h7 hf
          refine G_iconst 1 dX8_findCan_49 (by decide) ?_
          refine G_goto 86 dX8_findCan_50 (by decide) ?_
          exact g_X8_findCan_86 ih hf
def f_X8_findCan_13 (N : Nat) (c_askers : Int32) (c_told : Nat → Int32) (c_wish : Nat → Int32) (k3 : (Nat → Int32) → Int32 → Int32 → Int32 → Int32 → Int32 → Option (Int32 × (Nat → Int32))) : Nat → (Nat → Int32) → Int32 → Int32 → Int32 → Int32 → Int32 → Int32 → Option (Int32 × (Nat → Int32))
  | 0, _, _, _, _, _, _, _ => none
  | n + 1, c_can, v1, v2, v3, v4, v5, v6 =>
    (if c_askers ≤ v6 then
      k3 c_can v1 v2 v3 v4 (v5 + 1)
    else
      f_X8_findCan_28 N c_askers c_told c_wish (f_X8_findCan_13 N c_askers c_told c_wish k3 n) N c_can v1 v2 v3 v4 v5 v6 0 v3)
set_option maxHeartbeats 4000000 in
set_option maxRecDepth 100000 in
theorem g_X8_findCan_13 {κ : KC} {ω : KW} {A : Nat → Prop} {ad : Nat → Nat} {u_places : Int32} {u_above : Int64} {u_below : Int64} {u_full : Int32} {u_firsts : Int32} {u_freed : Int32} {u_whole : Int64} {N : Nat} {c_askers : Int32} {c_told : Nat → Int32} {c_wish : Nat → Int32}  {k3 : (Nat → Int32) → Int32 → Int32 → Int32 → Int32 → Int32 → Option (Int32 × (Nat → Int32))} {res : Int32 × (Nat → Int32)} (hk3 : ∀ {c_can : Nat → Int32} {v1 : Int32} {v2 : Int32} {v3 : Int32} {v4 : Int32} {v5 : Int32}, k3 c_can v1 v2 v3 v4 v5 = some res → GG mu_X8_findCan κ ω A (QR κ ω A ad (some (.int res.1)) (w_X8_findCan c_askers res.2 c_told c_wish u_places u_above u_below u_full u_firsts u_freed u_whole)) ad 0 0 3 (w_X8_findCan c_askers c_can c_told c_wish u_places u_above u_below u_full u_firsts u_freed u_whole) [some (.ref 0), some (.int v1), some (.int v2), some (.int v3), some (.int v4), some (.int v5), none, none, none, none] []) : ∀ (n : Nat) {c_can : Nat → Int32} {v1 : Int32} {v2 : Int32} {v3 : Int32} {v4 : Int32} {v5 : Int32} {v6 : Int32}, f_X8_findCan_13 N c_askers c_told c_wish k3 n c_can v1 v2 v3 v4 v5 v6 = some res → GG mu_X8_findCan κ ω A (QR κ ω A ad (some (.int res.1)) (w_X8_findCan c_askers res.2 c_told c_wish u_places u_above u_below u_full u_firsts u_freed u_whole)) ad 0 0 13 (w_X8_findCan c_askers c_can c_told c_wish u_places u_above u_below u_full u_firsts u_freed u_whole) [some (.ref 0), some (.int v1), some (.int v2), some (.int v3), some (.int v4), some (.int v5), some (.int v6), none, none, none] [] := by
  intro n
  induction n with
  | zero => intro c_can v1 v2 v3 v4 v5 v6 hf; exact ob_0 hf
  | succ n ih =>
    intro c_can v1 v2 v3 v4 v5 v6 hf
    refine G_iload dX8_findCan_13 rfl ?_
    refine G_aload_n dX8_findCan_15 rfl rfl ?_
    refine G_get (v := .int c_askers) F_X8_89 dX8_findCan_16 rfl rfl ?_
    refine G_icmp_ge 145 dX8_findCan_19 (by decide) (fun h1 => ?_) (fun h1 => ?_)
    · replace hf := ob_t h1 hf
      refine G_iinc 1 dX8_findCan_145 (by decide) rfl (ltb rfl) ?_
      change GG _ _ _ _ _ _ _ _ _ _ [some (.ref 0), some (.int v1), some (.int v2), some (.int v3), some (.int v4), some (.int (v5 + 1)), some (.int v6), none, none, none] _
      refine G_goto 3 dX8_findCan_148 (by decide) ?_
      refine GG.sb (lv2 := [some (.ref 0), some (.int v1), some (.int v2), some (.int v3), some (.int v4), some (.int (v5 + 1)), none, none, none, none]) ?_ (lvS_v rfl (lvS_v rfl (lvS_v rfl (lvS_v rfl (lvS_v rfl (lvS_v rfl (lvS_n (lvS_n (lvS_n (lvS_n (lvS_e)))))))))))
      exact hk3 hf
    · replace hf := ob_f h1 hf
      refine G_iconst 0 dX8_findCan_22 (by decide) ?_
      refine G_istore dX8_findCan_23 (ltb rfl) ?_
      change GG _ _ _ _ _ _ _ _ _ _ [some (.ref 0), some (.int v1), some (.int v2), some (.int v3), some (.int v4), some (.int v5), some (.int v6), some (.int 0), none, none] _
      refine G_iload_n dX8_findCan_25 rfl rfl ?_
      refine G_istore dX8_findCan_26 (ltb rfl) ?_
      change GG _ _ _ _ _ _ _ _ _ _ [some (.ref 0), some (.int v1), some (.int v2), some (.int v3), some (.int v4), some (.int v5), some (.int v6), some (.int 0), some (.int v3), none] _
      exact g_X8_findCan_28 ih N hf
def f_X8_findCan_3 (N : Nat) (c_askers : Int32) (c_told : Nat → Int32) (c_wish : Nat → Int32) : Nat → (Nat → Int32) → Int32 → Int32 → Int32 → Int32 → Int32 → Option (Int32 × (Nat → Int32))
  | 0, _, _, _, _, _, _ => none
  | n + 1, c_can, v1, v2, v3, v4, v5 =>
    (if v4 < v5 then
      (rdI 72 c_can ((8 * v4) + v3)).bind fun t2 =>
      if ¬ vp_nar .boolean t2 = t2 then none else some (t2, c_can)
    else
      f_X8_findCan_13 N c_askers c_told c_wish (f_X8_findCan_3 N c_askers c_told c_wish n) N c_can v1 v2 v3 v4 v5 v3)
set_option maxHeartbeats 4000000 in
set_option maxRecDepth 100000 in
theorem g_X8_findCan_3 {κ : KC} {ω : KW} {A : Nat → Prop} {ad : Nat → Nat} {u_places : Int32} {u_above : Int64} {u_below : Int64} {u_full : Int32} {u_firsts : Int32} {u_freed : Int32} {u_whole : Int64} {N : Nat} {c_askers : Int32} {c_told : Nat → Int32} {c_wish : Nat → Int32}  {res : Int32 × (Nat → Int32)} : ∀ (n : Nat) {c_can : Nat → Int32} {v1 : Int32} {v2 : Int32} {v3 : Int32} {v4 : Int32} {v5 : Int32}, f_X8_findCan_3 N c_askers c_told c_wish n c_can v1 v2 v3 v4 v5 = some res → GG mu_X8_findCan κ ω A (QR κ ω A ad (some (.int res.1)) (w_X8_findCan c_askers res.2 c_told c_wish u_places u_above u_below u_full u_firsts u_freed u_whole)) ad 0 0 3 (w_X8_findCan c_askers c_can c_told c_wish u_places u_above u_below u_full u_firsts u_freed u_whole) [some (.ref 0), some (.int v1), some (.int v2), some (.int v3), some (.int v4), some (.int v5), none, none, none, none] [] := by
  intro n
  induction n with
  | zero => intro c_can v1 v2 v3 v4 v5 hf; exact ob_0 hf
  | succ n ih =>
    intro c_can v1 v2 v3 v4 v5 hf
    refine G_iload dX8_findCan_3 rfl ?_
    refine G_iload dX8_findCan_5 rfl ?_
    refine G_icmp_gt 151 dX8_findCan_7 (by decide) (fun h1 => ?_) (fun h1 => ?_)
    · replace hf := ob_t h1 hf
      refine G_aload_n dX8_findCan_151 rfl rfl ?_
      refine G_get (v := .ref 1) F_X8_58 dX8_findCan_152 rfl rfl ?_
      refine G_bipush 8 dX8_findCan_155 (by decide) ?_
      refine G_iload dX8_findCan_157 rfl ?_
      refine G_imul dX8_findCan_159 ?_
      refine G_iload_n dX8_findCan_160 rfl rfl ?_
      refine G_iadd dX8_findCan_161 ?_
      obtain ⟨t2, ht2, hf⟩ := ob hf
      refine G_zald dX8_findCan_162 rfl ht2 ?_
      obtain ⟨h3, hf⟩ := ob_z hf
      replace h3 := Classical.not_not.mp h3
      obtain rfl := os hf
      exact G_zreturn dX8_findCan_163 rfl h3
    · replace hf := ob_f h1 hf
      refine G_iload_n dX8_findCan_10 rfl rfl ?_
      refine G_istore dX8_findCan_11 (ltb rfl) ?_
      change GG _ _ _ _ _ _ _ _ _ _ [some (.ref 0), some (.int v1), some (.int v2), some (.int v3), some (.int v4), some (.int v5), some (.int v3), none, none, none] _
      exact g_X8_findCan_13 ih N hf
def f_X8_findCan (N : Nat) (c_askers : Int32) (c_told : Nat → Int32) (c_wish : Nat → Int32) (c_can : Nat → Int32) (a1 : Int32) (a2 : Int32) (a3 : Int32) (a4 : Int32) : Option (Int32 × (Nat → Int32)) :=
  f_X8_findCan_3 N c_askers c_told c_wish N c_can a1 a2 a3 a4 1
set_option maxHeartbeats 4000000 in
set_option maxRecDepth 100000 in
theorem c_X8_findCan {N : Nat} {c_askers : Int32} {c_told : Nat → Int32} {c_wish : Nat → Int32} {c_can : Nat → Int32} {u_places : Int32} {u_above : Int64} {u_below : Int64} {u_full : Int32} {u_firsts : Int32} {u_freed : Int32} {u_whole : Int64} {a1 : Int32} {a2 : Int32} {a3 : Int32} {a4 : Int32} {res : Int32 × (Nat → Int32)} (hf : f_X8_findCan N c_askers c_told c_wish c_can a1 a2 a3 a4 = some res) : Con mu_X8_findCan [.ref 0, .int a1, .int a2, .int a3, .int a4] (w_X8_findCan c_askers c_can c_told c_wish u_places u_above u_below u_full u_firsts u_freed u_whole) (some (.int res.1)) (w_X8_findCan c_askers res.2 c_told c_wish u_places u_above u_below u_full u_firsts u_freed u_whole) := by
  refine Con.mk (show plainName RX8 = true by decide +kernel) (leb rfl) (fun κ ω A ad => ?_)
  change GG mu_X8_findCan κ ω A (QR κ ω A ad (some (.int res.1)) (w_X8_findCan c_askers res.2 c_told c_wish u_places u_above u_below u_full u_firsts u_freed u_whole)) ad 0 0 0 (w_X8_findCan c_askers c_can c_told c_wish u_places u_above u_below u_full u_firsts u_freed u_whole) [some (.ref 0), some (.int a1), some (.int a2), some (.int a3), some (.int a4), none, none, none, none, none] []
  refine G_iconst 1 dX8_findCan_0 (by decide) ?_
  refine G_istore dX8_findCan_1 (ltb rfl) ?_
  change GG _ _ _ _ _ _ _ _ _ _ [some (.ref 0), some (.int a1), some (.int a2), some (.int a3), some (.int a4), some (.int 1), none, none, none, none] _
  exact g_X8_findCan_3 N hf
set_option maxRecDepth 20000 in
theorem dX8_findRing_0 : decode cX8_findRing 0 = .ok (.iconst 1, 1) := by decide +kernel
set_option maxRecDepth 20000 in
theorem dX8_findRing_1 : decode cX8_findRing 1 = .ok (.istore_n 3, 1) := by decide +kernel
set_option maxRecDepth 20000 in
theorem dX8_findRing_2 : decode cX8_findRing 2 = .ok (.iload_n 3, 1) := by decide +kernel
set_option maxRecDepth 20000 in
theorem dX8_findRing_3 : decode cX8_findRing 3 = .ok (.aload_n 0, 1) := by decide +kernel
set_option maxRecDepth 20000 in
theorem dX8_findRing_4 : decode cX8_findRing 4 = .ok (.getfield 89, 3) := by decide +kernel
set_option maxRecDepth 20000 in
theorem dX8_findRing_7 : decode cX8_findRing 7 = .ok (.if_icmp .gt 123, 3) := by decide +kernel
set_option maxRecDepth 20000 in
theorem dX8_findRing_10 : decode cX8_findRing 10 = .ok (.iconst 0, 1) := by decide +kernel
set_option maxRecDepth 20000 in
theorem dX8_findRing_11 : decode cX8_findRing 11 = .ok (.istore 4, 2) := by decide +kernel
set_option maxRecDepth 20000 in
theorem dX8_findRing_13 : decode cX8_findRing 13 = .ok (.iload 4, 2) := by decide +kernel
set_option maxRecDepth 20000 in
theorem dX8_findRing_15 : decode cX8_findRing 15 = .ok (.aload_n 0, 1) := by decide +kernel
set_option maxRecDepth 20000 in
theorem dX8_findRing_16 : decode cX8_findRing 16 = .ok (.getfield 89, 3) := by decide +kernel
set_option maxRecDepth 20000 in
theorem dX8_findRing_19 : decode cX8_findRing 19 = .ok (.if_icmp .ge 105, 3) := by decide +kernel
set_option maxRecDepth 20000 in
theorem dX8_findRing_22 : decode cX8_findRing 22 = .ok (.aload_n 0, 1) := by decide +kernel
set_option maxRecDepth 20000 in
theorem dX8_findRing_23 : decode cX8_findRing 23 = .ok (.iload_n 1, 1) := by decide +kernel
set_option maxRecDepth 20000 in
theorem dX8_findRing_24 : decode cX8_findRing 24 = .ok (.iload_n 2, 1) := by decide +kernel
set_option maxRecDepth 20000 in
theorem dX8_findRing_25 : decode cX8_findRing 25 = .ok (.iload 4, 2) := by decide +kernel
set_option maxRecDepth 20000 in
theorem dX8_findRing_27 : decode cX8_findRing 27 = .ok (.iload_n 3, 1) := by decide +kernel
set_option maxRecDepth 20000 in
theorem dX8_findRing_28 : decode cX8_findRing 28 = .ok (.invokevirtual 214, 3) := by decide +kernel
set_option maxRecDepth 20000 in
theorem dX8_findRing_31 : decode cX8_findRing 31 = .ok (.ifCond .eq 87, 3) := by decide +kernel
set_option maxRecDepth 20000 in
theorem dX8_findRing_34 : decode cX8_findRing 34 = .ok (.aload_n 0, 1) := by decide +kernel
set_option maxRecDepth 20000 in
theorem dX8_findRing_35 : decode cX8_findRing 35 = .ok (.getfield 62, 3) := by decide +kernel
set_option maxRecDepth 20000 in
theorem dX8_findRing_38 : decode cX8_findRing 38 = .ok (.iconst 0, 1) := by decide +kernel
set_option maxRecDepth 20000 in
theorem dX8_findRing_39 : decode cX8_findRing 39 = .ok (.iload 4, 2) := by decide +kernel
set_option maxRecDepth 20000 in
theorem dX8_findRing_41 : decode cX8_findRing 41 = .ok (.iastore, 1) := by decide +kernel
set_option maxRecDepth 20000 in
theorem dX8_findRing_42 : decode cX8_findRing 42 = .ok (.iconst 1, 1) := by decide +kernel
set_option maxRecDepth 20000 in
theorem dX8_findRing_43 : decode cX8_findRing 43 = .ok (.istore 5, 2) := by decide +kernel
set_option maxRecDepth 20000 in
theorem dX8_findRing_45 : decode cX8_findRing 45 = .ok (.iload 5, 2) := by decide +kernel
set_option maxRecDepth 20000 in
theorem dX8_findRing_47 : decode cX8_findRing 47 = .ok (.iload_n 3, 1) := by decide +kernel
set_option maxRecDepth 20000 in
theorem dX8_findRing_48 : decode cX8_findRing 48 = .ok (.if_icmp .ge 68, 3) := by decide +kernel
set_option maxRecDepth 20000 in
theorem dX8_findRing_51 : decode cX8_findRing 51 = .ok (.iload 4, 2) := by decide +kernel
set_option maxRecDepth 20000 in
theorem dX8_findRing_53 : decode cX8_findRing 53 = .ok (.iconst 1, 1) := by decide +kernel
set_option maxRecDepth 20000 in
theorem dX8_findRing_54 : decode cX8_findRing 54 = .ok (.iadd, 1) := by decide +kernel
set_option maxRecDepth 20000 in
theorem dX8_findRing_55 : decode cX8_findRing 55 = .ok (.istore 6, 2) := by decide +kernel
set_option maxRecDepth 20000 in
theorem dX8_findRing_57 : decode cX8_findRing 57 = .ok (.aload_n 0, 1) := by decide +kernel
set_option maxRecDepth 20000 in
theorem dX8_findRing_58 : decode cX8_findRing 58 = .ok (.getfield 58, 3) := by decide +kernel
set_option maxRecDepth 20000 in
theorem dX8_findRing_61 : decode cX8_findRing 61 = .ok (.bipush 8, 2) := by decide +kernel
set_option maxRecDepth 20000 in
theorem dX8_findRing_63 : decode cX8_findRing 63 = .ok (.iload_n 3, 1) := by decide +kernel
set_option maxRecDepth 20000 in
theorem dX8_findRing_64 : decode cX8_findRing 64 = .ok (.iload 5, 2) := by decide +kernel
set_option maxRecDepth 20000 in
theorem dX8_findRing_66 : decode cX8_findRing 66 = .ok (.isub, 1) := by decide +kernel
set_option maxRecDepth 20000 in
theorem dX8_findRing_67 : decode cX8_findRing 67 = .ok (.imul, 1) := by decide +kernel
set_option maxRecDepth 20000 in
theorem dX8_findRing_68 : decode cX8_findRing 68 = .ok (.iload 6, 2) := by decide +kernel
set_option maxRecDepth 20000 in
theorem dX8_findRing_70 : decode cX8_findRing 70 = .ok (.iadd, 1) := by decide +kernel
set_option maxRecDepth 20000 in
theorem dX8_findRing_71 : decode cX8_findRing 71 = .ok (.baload, 1) := by decide +kernel
set_option maxRecDepth 20000 in
theorem dX8_findRing_72 : decode cX8_findRing 72 = .ok (.ifCond .eq 23, 3) := by decide +kernel
set_option maxRecDepth 20000 in
theorem dX8_findRing_75 : decode cX8_findRing 75 = .ok (.aload_n 0, 1) := by decide +kernel
set_option maxRecDepth 20000 in
theorem dX8_findRing_76 : decode cX8_findRing 76 = .ok (.iload_n 1, 1) := by decide +kernel
set_option maxRecDepth 20000 in
theorem dX8_findRing_77 : decode cX8_findRing 77 = .ok (.iload_n 2, 1) := by decide +kernel
set_option maxRecDepth 20000 in
theorem dX8_findRing_78 : decode cX8_findRing 78 = .ok (.aload_n 0, 1) := by decide +kernel
set_option maxRecDepth 20000 in
theorem dX8_findRing_79 : decode cX8_findRing 79 = .ok (.getfield 62, 3) := by decide +kernel
set_option maxRecDepth 20000 in
theorem dX8_findRing_82 : decode cX8_findRing 82 = .ok (.iload 5, 2) := by decide +kernel
set_option maxRecDepth 20000 in
theorem dX8_findRing_84 : decode cX8_findRing 84 = .ok (.iconst 1, 1) := by decide +kernel
set_option maxRecDepth 20000 in
theorem dX8_findRing_85 : decode cX8_findRing 85 = .ok (.isub, 1) := by decide +kernel
set_option maxRecDepth 20000 in
theorem dX8_findRing_86 : decode cX8_findRing 86 = .ok (.iaload, 1) := by decide +kernel
set_option maxRecDepth 20000 in
theorem dX8_findRing_87 : decode cX8_findRing 87 = .ok (.iload 6, 2) := by decide +kernel
set_option maxRecDepth 20000 in
theorem dX8_findRing_89 : decode cX8_findRing 89 = .ok (.invokevirtual 210, 3) := by decide +kernel
set_option maxRecDepth 20000 in
theorem dX8_findRing_92 : decode cX8_findRing 92 = .ok (.ifCond .ne 9, 3) := by decide +kernel
set_option maxRecDepth 20000 in
theorem dX8_findRing_95 : decode cX8_findRing 95 = .ok (.iinc 6 1, 3) := by decide +kernel
set_option maxRecDepth 20000 in
theorem dX8_findRing_98 : decode cX8_findRing 98 = .ok (.goto (-41), 3) := by decide +kernel
set_option maxRecDepth 20000 in
theorem dX8_findRing_101 : decode cX8_findRing 101 = .ok (.aload_n 0, 1) := by decide +kernel
set_option maxRecDepth 20000 in
theorem dX8_findRing_102 : decode cX8_findRing 102 = .ok (.getfield 62, 3) := by decide +kernel
set_option maxRecDepth 20000 in
theorem dX8_findRing_105 : decode cX8_findRing 105 = .ok (.iload 5, 2) := by decide +kernel
set_option maxRecDepth 20000 in
theorem dX8_findRing_107 : decode cX8_findRing 107 = .ok (.iload 6, 2) := by decide +kernel
set_option maxRecDepth 20000 in
theorem dX8_findRing_109 : decode cX8_findRing 109 = .ok (.iastore, 1) := by decide +kernel
set_option maxRecDepth 20000 in
theorem dX8_findRing_110 : decode cX8_findRing 110 = .ok (.iinc 5 1, 3) := by decide +kernel
set_option maxRecDepth 20000 in
theorem dX8_findRing_113 : decode cX8_findRing 113 = .ok (.goto (-68), 3) := by decide +kernel
set_option maxRecDepth 20000 in
theorem dX8_findRing_116 : decode cX8_findRing 116 = .ok (.iload_n 3, 1) := by decide +kernel
set_option maxRecDepth 20000 in
theorem dX8_findRing_117 : decode cX8_findRing 117 = .ok (.ireturn, 1) := by decide +kernel
set_option maxRecDepth 20000 in
theorem dX8_findRing_118 : decode cX8_findRing 118 = .ok (.iinc 4 1, 3) := by decide +kernel
set_option maxRecDepth 20000 in
theorem dX8_findRing_121 : decode cX8_findRing 121 = .ok (.goto (-108), 3) := by decide +kernel
set_option maxRecDepth 20000 in
theorem dX8_findRing_124 : decode cX8_findRing 124 = .ok (.iinc 3 1, 3) := by decide +kernel
set_option maxRecDepth 20000 in
theorem dX8_findRing_127 : decode cX8_findRing 127 = .ok (.goto (-125), 3) := by decide +kernel
set_option maxRecDepth 20000 in
theorem dX8_findRing_130 : decode cX8_findRing 130 = .ok (.iconst 0, 1) := by decide +kernel
set_option maxRecDepth 20000 in
theorem dX8_findRing_131 : decode cX8_findRing 131 = .ok (.ireturn, 1) := by decide +kernel
def f_X8_findRing_57 (N : Nat) (c_askers : Int32) (c_told : Nat → Int32) (c_wish : Nat → Int32) (k45 : (Nat → Int32) → (Nat → Int32) → Int32 → Int32 → Int32 → Int32 → Int32 → Option (Int32 × (Nat → Int32) × (Nat → Int32))) : Nat → (Nat → Int32) → (Nat → Int32) → Int32 → Int32 → Int32 → Int32 → Int32 → Int32 → Option (Int32 × (Nat → Int32) × (Nat → Int32))
  | 0, _, _, _, _, _, _, _, _ => none
  | n + 1, c_can, c_ring, v1, v2, v3, v4, v5, v6 =>
    (rdI 72 c_can ((8 * (v3 - v5)) + v6)).bind fun t1 =>
    (if t1 = 0 then
      f_X8_findRing_57 N c_askers c_told c_wish k45 n c_can c_ring v1 v2 v3 v4 v5 (v6 + 1)
    else
      (rdI 8 c_ring (v5 - 1)).bind fun t3 =>
      (f_X8_wants N c_told c_wish v1 v2 t3 v6).bind fun r4 =>
      (if r4 = 0 then
        f_X8_findRing_57 N c_askers c_told c_wish k45 n c_can c_ring v1 v2 v3 v4 v5 (v6 + 1)
      else
        (wrI 8 c_ring v5 v6).bind fun t7 =>
        k45 c_can t7 v1 v2 v3 v4 (v5 + 1)))
set_option maxHeartbeats 4000000 in
set_option maxRecDepth 100000 in
theorem g_X8_findRing_57 {κ : KC} {ω : KW} {A : Nat → Prop} {ad : Nat → Nat} {u_places : Int32} {u_above : Int64} {u_below : Int64} {u_full : Int32} {u_firsts : Int32} {u_freed : Int32} {u_whole : Int64} {N : Nat} {c_askers : Int32} {c_told : Nat → Int32} {c_wish : Nat → Int32}  {k45 : (Nat → Int32) → (Nat → Int32) → Int32 → Int32 → Int32 → Int32 → Int32 → Option (Int32 × (Nat → Int32) × (Nat → Int32))} {res : Int32 × (Nat → Int32) × (Nat → Int32)} (hk45 : ∀ {c_can : Nat → Int32} {c_ring : Nat → Int32} {v1 : Int32} {v2 : Int32} {v3 : Int32} {v4 : Int32} {v5 : Int32}, k45 c_can c_ring v1 v2 v3 v4 v5 = some res → GG mu_X8_findRing κ ω A (QR κ ω A ad (some (.int res.1)) (w_X8_findRing c_askers res.2.1 res.2.2 c_told c_wish u_places u_above u_below u_full u_firsts u_freed u_whole)) ad 0 0 45 (w_X8_findRing c_askers c_can c_ring c_told c_wish u_places u_above u_below u_full u_firsts u_freed u_whole) [some (.ref 0), some (.int v1), some (.int v2), some (.int v3), some (.int v4), some (.int v5), none] []) : ∀ (n : Nat) {c_can : Nat → Int32} {c_ring : Nat → Int32} {v1 : Int32} {v2 : Int32} {v3 : Int32} {v4 : Int32} {v5 : Int32} {v6 : Int32}, f_X8_findRing_57 N c_askers c_told c_wish k45 n c_can c_ring v1 v2 v3 v4 v5 v6 = some res → GG mu_X8_findRing κ ω A (QR κ ω A ad (some (.int res.1)) (w_X8_findRing c_askers res.2.1 res.2.2 c_told c_wish u_places u_above u_below u_full u_firsts u_freed u_whole)) ad 0 0 57 (w_X8_findRing c_askers c_can c_ring c_told c_wish u_places u_above u_below u_full u_firsts u_freed u_whole) [some (.ref 0), some (.int v1), some (.int v2), some (.int v3), some (.int v4), some (.int v5), some (.int v6)] [] := by
  intro n
  induction n with
  | zero => intro c_can c_ring v1 v2 v3 v4 v5 v6 hf; exact ob_0 hf
  | succ n ih =>
    intro c_can c_ring v1 v2 v3 v4 v5 v6 hf
    refine G_aload_n dX8_findRing_57 rfl rfl ?_
    refine G_get (v := .ref 1) F_X8_58 dX8_findRing_58 rfl rfl ?_
    refine G_bipush 8 dX8_findRing_61 (by decide) ?_
    refine G_iload_n dX8_findRing_63 rfl rfl ?_
    refine G_iload dX8_findRing_64 rfl ?_
    refine G_isub dX8_findRing_66 ?_
    refine G_imul dX8_findRing_67 ?_
    refine G_iload dX8_findRing_68 rfl ?_
    refine G_iadd dX8_findRing_70 ?_
    obtain ⟨t1, ht1, hf⟩ := ob hf
    refine G_zald dX8_findRing_71 rfl ht1 ?_
    refine G_if_eq 95 dX8_findRing_72 (by decide) (fun h2 => ?_) (fun h2 => ?_)
    · replace hf := ob_t h2 hf
      refine G_iinc 1 dX8_findRing_95 (by decide) rfl (ltb rfl) ?_
      change GG _ _ _ _ _ _ _ _ _ _ [some (.ref 0), some (.int v1), some (.int v2), some (.int v3), some (.int v4), some (.int v5), some (.int (v6 + 1))] _
      refine G_goto 57 dX8_findRing_98 (by decide) ?_
      exact ih hf
    · replace hf := ob_f h2 hf
      refine G_aload_n dX8_findRing_75 rfl rfl ?_
      refine G_iload_n dX8_findRing_76 rfl rfl ?_
      refine G_iload_n dX8_findRing_77 rfl rfl ?_
      refine G_aload_n dX8_findRing_78 rfl rfl ?_
      refine G_get (v := .ref 2) F_X8_62 dX8_findRing_79 rfl rfl ?_
      refine G_iload dX8_findRing_82 rfl ?_
      refine G_iconst 1 dX8_findRing_84 (by decide) ?_
      refine G_isub dX8_findRing_85 ?_
      obtain ⟨t3, ht3, hf⟩ := ob hf
      refine G_iald dX8_findRing_86 rfl ht3 ?_
      refine G_iload dX8_findRing_87 rfl ?_
      obtain ⟨r4, hc5, hf⟩ := ob hf
      refine G_callV (μ2 := mu_X8_wants) (As := [.int v1, .int v2, .int t3, .int v6]) (w2 := (w_X8_findRing c_askers c_can c_ring c_told c_wish u_places u_above u_below u_full u_firsts u_freed u_whole)) (wc := (w_X8_wants c_told c_wish c_askers u_places u_above u_below u_full u_firsts u_freed u_whole)) (wc2 := (w_X8_wants c_told c_wish c_askers u_places u_above u_below u_full u_firsts u_freed u_whole)) (rest := []) (rv := [.int r4]) [0, 3, 4] [1000, 1001, 1002, 1003, 1004, 1005, 1006, 1007, 1008, 1009, 1010, 1011, 1012, 1, 2, 1013, 1014, 1015, 1016] [1, 2] [2, 0, 1, 3, 4] (c_X8_wants hc5) cw_X8_wants m_X8_210 dX8_findRing_89 rfl ⟨leb rfl, leb rfl⟩ ⟨rfl, rfl⟩ rfl ⟨_, rfl, rfl⟩ (Fit.mk rfl rfl rfl) rfl (leb rfl) (ROsub.nil rfl rfl) rfl ?_
      change GG _ _ _ _ _ _ _ _ _ (w_X8_findRing c_askers c_can c_ring c_told c_wish u_places u_above u_below u_full u_firsts u_freed u_whole) [some (.ref 0), some (.int v1), some (.int v2), some (.int v3), some (.int v4), some (.int v5), some (.int v6)] [.int r4]
      refine G_if_ne 101 dX8_findRing_92 (by decide) (fun h6 => ?_) (fun h6 => ?_)
      · replace hf := ob_f h6 hf
        refine G_aload_n dX8_findRing_101 rfl rfl ?_
        refine G_get (v := .ref 2) F_X8_62 dX8_findRing_102 rfl rfl ?_
        refine G_iload dX8_findRing_105 rfl ?_
        refine G_iload dX8_findRing_107 rfl ?_
        obtain ⟨t7, ht7, hf⟩ := ob hf
        refine G_iast (w2 := (w_X8_findRing c_askers c_can t7 c_told c_wish u_places u_above u_below u_full u_firsts u_freed u_whole)) dX8_findRing_109 rfl ht7 rfl ?_
        refine G_iinc 1 dX8_findRing_110 (by decide) rfl (ltb rfl) ?_
        change GG _ _ _ _ _ _ _ _ _ _ [some (.ref 0), some (.int v1), some (.int v2), some (.int v3), some (.int v4), some (.int (v5 + 1)), some (.int v6)] _
        refine G_goto 45 dX8_findRing_113 (by decide) ?_
        refine GG.sb (lv2 := [some (.ref 0), some (.int v1), some (.int v2), some (.int v3), some (.int v4), some (.int (v5 + 1)), none]) ?_ (lvS_v rfl (lvS_v rfl (lvS_v rfl (lvS_v rfl (lvS_v rfl (lvS_v rfl (lvS_n (lvS_e))))))))
        exact hk45 hf
      · replace hf := ob_t h6 hf
        refine G_iinc 1 dX8_findRing_95 (by decide) rfl (ltb rfl) ?_
        change GG _ _ _ _ _ _ _ _ _ _ [some (.ref 0), some (.int v1), some (.int v2), some (.int v3), some (.int v4), some (.int v5), some (.int (v6 + 1))] _
        refine G_goto 57 dX8_findRing_98 (by decide) ?_
        exact ih hf
def f_X8_findRing_45 (N : Nat) (c_askers : Int32) (c_told : Nat → Int32) (c_wish : Nat → Int32) : Nat → (Nat → Int32) → (Nat → Int32) → Int32 → Int32 → Int32 → Int32 → Int32 → Option (Int32 × (Nat → Int32) × (Nat → Int32))
  | 0, _, _, _, _, _, _, _ => none
  | n + 1, c_can, c_ring, v1, v2, v3, v4, v5 =>
    (if v3 ≤ v5 then
      some (v3, c_can, c_ring)
    else
      f_X8_findRing_57 N c_askers c_told c_wish (f_X8_findRing_45 N c_askers c_told c_wish n) N c_can c_ring v1 v2 v3 v4 v5 (v4 + 1))
set_option maxHeartbeats 4000000 in
set_option maxRecDepth 100000 in
theorem g_X8_findRing_45 {κ : KC} {ω : KW} {A : Nat → Prop} {ad : Nat → Nat} {u_places : Int32} {u_above : Int64} {u_below : Int64} {u_full : Int32} {u_firsts : Int32} {u_freed : Int32} {u_whole : Int64} {N : Nat} {c_askers : Int32} {c_told : Nat → Int32} {c_wish : Nat → Int32}  {res : Int32 × (Nat → Int32) × (Nat → Int32)} : ∀ (n : Nat) {c_can : Nat → Int32} {c_ring : Nat → Int32} {v1 : Int32} {v2 : Int32} {v3 : Int32} {v4 : Int32} {v5 : Int32}, f_X8_findRing_45 N c_askers c_told c_wish n c_can c_ring v1 v2 v3 v4 v5 = some res → GG mu_X8_findRing κ ω A (QR κ ω A ad (some (.int res.1)) (w_X8_findRing c_askers res.2.1 res.2.2 c_told c_wish u_places u_above u_below u_full u_firsts u_freed u_whole)) ad 0 0 45 (w_X8_findRing c_askers c_can c_ring c_told c_wish u_places u_above u_below u_full u_firsts u_freed u_whole) [some (.ref 0), some (.int v1), some (.int v2), some (.int v3), some (.int v4), some (.int v5), none] [] := by
  intro n
  induction n with
  | zero => intro c_can c_ring v1 v2 v3 v4 v5 hf; exact ob_0 hf
  | succ n ih =>
    intro c_can c_ring v1 v2 v3 v4 v5 hf
    refine G_iload dX8_findRing_45 rfl ?_
    refine G_iload_n dX8_findRing_47 rfl rfl ?_
    refine G_icmp_ge 116 dX8_findRing_48 (by decide) (fun h1 => ?_) (fun h1 => ?_)
    · replace hf := ob_t h1 hf
      refine G_iload_n dX8_findRing_116 rfl rfl ?_
      obtain rfl := os hf
      exact G_ireturn dX8_findRing_117 rfl
    · replace hf := ob_f h1 hf
      refine G_iload dX8_findRing_51 rfl ?_
      refine G_iconst 1 dX8_findRing_53 (by decide) ?_
      refine G_iadd dX8_findRing_54 ?_
      refine G_istore dX8_findRing_55 (ltb rfl) ?_
      change GG _ _ _ _ _ _ _ _ _ _ [some (.ref 0), some (.int v1), some (.int v2), some (.int v3), some (.int v4), some (.int v5), some (.int (v4 + 1))] _
      exact g_X8_findRing_57 ih N hf
def f_X8_findRing_13 (N : Nat) (c_askers : Int32) (c_told : Nat → Int32) (c_wish : Nat → Int32) (k2 : (Nat → Int32) → (Nat → Int32) → Int32 → Int32 → Int32 → Option (Int32 × (Nat → Int32) × (Nat → Int32))) : Nat → (Nat → Int32) → (Nat → Int32) → Int32 → Int32 → Int32 → Int32 → Option (Int32 × (Nat → Int32) × (Nat → Int32))
  | 0, _, _, _, _, _, _ => none
  | n + 1, c_can, c_ring, v1, v2, v3, v4 =>
    (if c_askers ≤ v4 then
      k2 c_can c_ring v1 v2 (v3 + 1)
    else
      (f_X8_findCan N c_askers c_told c_wish c_can v1 v2 v4 v3).bind fun (r2, o3) =>
      (if r2 = 0 then
        f_X8_findRing_13 N c_askers c_told c_wish k2 n o3 c_ring v1 v2 v3 (v4 + 1)
      else
        (wrI 8 c_ring 0 v4).bind fun t6 =>
        f_X8_findRing_45 N c_askers c_told c_wish N o3 t6 v1 v2 v3 v4 1))
set_option maxHeartbeats 4000000 in
set_option maxRecDepth 100000 in
theorem g_X8_findRing_13 {κ : KC} {ω : KW} {A : Nat → Prop} {ad : Nat → Nat} {u_places : Int32} {u_above : Int64} {u_below : Int64} {u_full : Int32} {u_firsts : Int32} {u_freed : Int32} {u_whole : Int64} {N : Nat} {c_askers : Int32} {c_told : Nat → Int32} {c_wish : Nat → Int32}  {k2 : (Nat → Int32) → (Nat → Int32) → Int32 → Int32 → Int32 → Option (Int32 × (Nat → Int32) × (Nat → Int32))} {res : Int32 × (Nat → Int32) × (Nat → Int32)} (hk2 : ∀ {c_can : Nat → Int32} {c_ring : Nat → Int32} {v1 : Int32} {v2 : Int32} {v3 : Int32}, k2 c_can c_ring v1 v2 v3 = some res → GG mu_X8_findRing κ ω A (QR κ ω A ad (some (.int res.1)) (w_X8_findRing c_askers res.2.1 res.2.2 c_told c_wish u_places u_above u_below u_full u_firsts u_freed u_whole)) ad 0 0 2 (w_X8_findRing c_askers c_can c_ring c_told c_wish u_places u_above u_below u_full u_firsts u_freed u_whole) [some (.ref 0), some (.int v1), some (.int v2), some (.int v3), none, none, none] []) : ∀ (n : Nat) {c_can : Nat → Int32} {c_ring : Nat → Int32} {v1 : Int32} {v2 : Int32} {v3 : Int32} {v4 : Int32}, f_X8_findRing_13 N c_askers c_told c_wish k2 n c_can c_ring v1 v2 v3 v4 = some res → GG mu_X8_findRing κ ω A (QR κ ω A ad (some (.int res.1)) (w_X8_findRing c_askers res.2.1 res.2.2 c_told c_wish u_places u_above u_below u_full u_firsts u_freed u_whole)) ad 0 0 13 (w_X8_findRing c_askers c_can c_ring c_told c_wish u_places u_above u_below u_full u_firsts u_freed u_whole) [some (.ref 0), some (.int v1), some (.int v2), some (.int v3), some (.int v4), none, none] [] := by
  intro n
  induction n with
  | zero => intro c_can c_ring v1 v2 v3 v4 hf; exact ob_0 hf
  | succ n ih =>
    intro c_can c_ring v1 v2 v3 v4 hf
    refine G_iload dX8_findRing_13 rfl ?_
    refine G_aload_n dX8_findRing_15 rfl rfl ?_
    refine G_get (v := .int c_askers) F_X8_89 dX8_findRing_16 rfl rfl ?_
    refine G_icmp_ge 124 dX8_findRing_19 (by decide) (fun h1 => ?_) (fun h1 => ?_)
    · replace hf := ob_t h1 hf
      refine G_iinc 1 dX8_findRing_124 (by decide) rfl (ltb rfl) ?_
      change GG _ _ _ _ _ _ _ _ _ _ [some (.ref 0), some (.int v1), some (.int v2), some (.int (v3 + 1)), some (.int v4), none, none] _
      refine G_goto 2 dX8_findRing_127 (by decide) ?_
      refine GG.sb (lv2 := [some (.ref 0), some (.int v1), some (.int v2), some (.int (v3 + 1)), none, none, none]) ?_ (lvS_v rfl (lvS_v rfl (lvS_v rfl (lvS_v rfl (lvS_n (lvS_n (lvS_n (lvS_e))))))))
      exact hk2 hf
    · replace hf := ob_f h1 hf
      refine G_aload_n dX8_findRing_22 rfl rfl ?_
      refine G_iload_n dX8_findRing_23 rfl rfl ?_
      refine G_iload_n dX8_findRing_24 rfl rfl ?_
      refine G_iload dX8_findRing_25 rfl ?_
      refine G_iload_n dX8_findRing_27 rfl rfl ?_
      obtain ⟨⟨r2, o3⟩, hc4, hf⟩ := ob hf
      refine G_callV (μ2 := mu_X8_findCan) (As := [.int v1, .int v2, .int v4, .int v3]) (w2 := (w_X8_findRing c_askers o3 c_ring c_told c_wish u_places u_above u_below u_full u_firsts u_freed u_whole)) (wc := (w_X8_findCan c_askers c_can c_told c_wish u_places u_above u_below u_full u_firsts u_freed u_whole)) (wc2 := (w_X8_findCan c_askers o3 c_told c_wish u_places u_above u_below u_full u_firsts u_freed u_whole)) (rest := []) (rv := [.int r2]) [0, 1, 3, 4] [1000, 1001, 1002, 1003, 1004, 1005, 1006, 1007, 1008, 1009, 1010, 1011, 1012, 2, 1013, 1014, 1015, 1016] [2] [1, 2, 0, 3, 4] (c_X8_findCan hc4) cw_X8_findCan m_X8_214 dX8_findRing_28 rfl ⟨leb rfl, leb rfl⟩ ⟨rfl, rfl⟩ rfl ⟨_, rfl, rfl⟩ (Fit.mk rfl rfl rfl) rfl (leb rfl) (ROsub.nil rfl rfl) rfl ?_
      change GG _ _ _ _ _ _ _ _ _ (w_X8_findRing c_askers o3 c_ring c_told c_wish u_places u_above u_below u_full u_firsts u_freed u_whole) [some (.ref 0), some (.int v1), some (.int v2), some (.int v3), some (.int v4), none, none] [.int r2]
      refine G_if_eq 118 dX8_findRing_31 (by decide) (fun h5 => ?_) (fun h5 => ?_)
      · replace hf := ob_t h5 hf
        refine G_iinc 1 dX8_findRing_118 (by decide) rfl (ltb rfl) ?_
        change GG _ _ _ _ _ _ _ _ _ _ [some (.ref 0), some (.int v1), some (.int v2), some (.int v3), some (.int (v4 + 1)), none, none] _
        refine G_goto 13 dX8_findRing_121 (by decide) ?_
        exact ih hf
      · replace hf := ob_f h5 hf
        refine G_aload_n dX8_findRing_34 rfl rfl ?_
        refine G_get (v := .ref 2) F_X8_62 dX8_findRing_35 rfl rfl ?_
        refine G_iconst 0 dX8_findRing_38 (by decide) ?_
        refine G_iload dX8_findRing_39 rfl ?_
        obtain ⟨t6, ht6, hf⟩ := ob hf
        refine G_iast (w2 := (w_X8_findRing c_askers o3 t6 c_told c_wish u_places u_above u_below u_full u_firsts u_freed u_whole)) dX8_findRing_41 rfl ht6 rfl ?_
        refine G_iconst 1 dX8_findRing_42 (by decide) ?_
        refine G_istore dX8_findRing_43 (ltb rfl) ?_
        change GG _ _ _ _ _ _ _ _ _ _ [some (.ref 0), some (.int v1), some (.int v2), some (.int v3), some (.int v4), some (.int 1), none] _
        exact g_X8_findRing_45 N hf
def f_X8_findRing_2 (N : Nat) (c_askers : Int32) (c_told : Nat → Int32) (c_wish : Nat → Int32) : Nat → (Nat → Int32) → (Nat → Int32) → Int32 → Int32 → Int32 → Option (Int32 × (Nat → Int32) × (Nat → Int32))
  | 0, _, _, _, _, _ => none
  | n + 1, c_can, c_ring, v1, v2, v3 =>
    (if c_askers < v3 then
      some (0, c_can, c_ring)
    else
      f_X8_findRing_13 N c_askers c_told c_wish (f_X8_findRing_2 N c_askers c_told c_wish n) N c_can c_ring v1 v2 v3 0)
set_option maxHeartbeats 4000000 in
set_option maxRecDepth 100000 in
theorem g_X8_findRing_2 {κ : KC} {ω : KW} {A : Nat → Prop} {ad : Nat → Nat} {u_places : Int32} {u_above : Int64} {u_below : Int64} {u_full : Int32} {u_firsts : Int32} {u_freed : Int32} {u_whole : Int64} {N : Nat} {c_askers : Int32} {c_told : Nat → Int32} {c_wish : Nat → Int32}  {res : Int32 × (Nat → Int32) × (Nat → Int32)} : ∀ (n : Nat) {c_can : Nat → Int32} {c_ring : Nat → Int32} {v1 : Int32} {v2 : Int32} {v3 : Int32}, f_X8_findRing_2 N c_askers c_told c_wish n c_can c_ring v1 v2 v3 = some res → GG mu_X8_findRing κ ω A (QR κ ω A ad (some (.int res.1)) (w_X8_findRing c_askers res.2.1 res.2.2 c_told c_wish u_places u_above u_below u_full u_firsts u_freed u_whole)) ad 0 0 2 (w_X8_findRing c_askers c_can c_ring c_told c_wish u_places u_above u_below u_full u_firsts u_freed u_whole) [some (.ref 0), some (.int v1), some (.int v2), some (.int v3), none, none, none] [] := by
  intro n
  induction n with
  | zero => intro c_can c_ring v1 v2 v3 hf; exact ob_0 hf
  | succ n ih =>
    intro c_can c_ring v1 v2 v3 hf
    refine G_iload_n dX8_findRing_2 rfl rfl ?_
    refine G_aload_n dX8_findRing_3 rfl rfl ?_
    refine G_get (v := .int c_askers) F_X8_89 dX8_findRing_4 rfl rfl ?_
    refine G_icmp_gt 130 dX8_findRing_7 (by decide) (fun h1 => ?_) (fun h1 => ?_)
    · replace hf := ob_t h1 hf
      refine G_iconst 0 dX8_findRing_130 (by decide) ?_
      obtain rfl := os hf
      exact G_ireturn dX8_findRing_131 rfl
    · replace hf := ob_f h1 hf
      refine G_iconst 0 dX8_findRing_10 (by decide) ?_
      refine G_istore dX8_findRing_11 (ltb rfl) ?_
      change GG _ _ _ _ _ _ _ _ _ _ [some (.ref 0), some (.int v1), some (.int v2), some (.int v3), some (.int 0), none, none] _
      exact g_X8_findRing_13 ih N hf
def f_X8_findRing (N : Nat) (c_askers : Int32) (c_told : Nat → Int32) (c_wish : Nat → Int32) (c_can : Nat → Int32) (c_ring : Nat → Int32) (a1 : Int32) (a2 : Int32) : Option (Int32 × (Nat → Int32) × (Nat → Int32)) :=
  f_X8_findRing_2 N c_askers c_told c_wish N c_can c_ring a1 a2 1
set_option maxHeartbeats 4000000 in
set_option maxRecDepth 100000 in
theorem c_X8_findRing {N : Nat} {c_askers : Int32} {c_told : Nat → Int32} {c_wish : Nat → Int32} {c_can : Nat → Int32} {c_ring : Nat → Int32} {u_places : Int32} {u_above : Int64} {u_below : Int64} {u_full : Int32} {u_firsts : Int32} {u_freed : Int32} {u_whole : Int64} {a1 : Int32} {a2 : Int32} {res : Int32 × (Nat → Int32) × (Nat → Int32)} (hf : f_X8_findRing N c_askers c_told c_wish c_can c_ring a1 a2 = some res) : Con mu_X8_findRing [.ref 0, .int a1, .int a2] (w_X8_findRing c_askers c_can c_ring c_told c_wish u_places u_above u_below u_full u_firsts u_freed u_whole) (some (.int res.1)) (w_X8_findRing c_askers res.2.1 res.2.2 c_told c_wish u_places u_above u_below u_full u_firsts u_freed u_whole) := by
  refine Con.mk (show plainName RX8 = true by decide +kernel) (leb rfl) (fun κ ω A ad => ?_)
  change GG mu_X8_findRing κ ω A (QR κ ω A ad (some (.int res.1)) (w_X8_findRing c_askers res.2.1 res.2.2 c_told c_wish u_places u_above u_below u_full u_firsts u_freed u_whole)) ad 0 0 0 (w_X8_findRing c_askers c_can c_ring c_told c_wish u_places u_above u_below u_full u_firsts u_freed u_whole) [some (.ref 0), some (.int a1), some (.int a2), none, none, none, none] []
  refine G_iconst 1 dX8_findRing_0 (by decide) ?_
  refine G_istore_n dX8_findRing_1 rfl (ltb rfl) ?_
  change GG _ _ _ _ _ _ _ _ _ _ [some (.ref 0), some (.int a1), some (.int a2), some (.int 1), none, none, none] _
  exact g_X8_findRing_2 N hf
set_option maxRecDepth 20000 in
theorem dX8_leaving_0 : decode cX8_leaving 0 = .ok (.iload_n 1, 1) := by decide +kernel
set_option maxRecDepth 20000 in
theorem dX8_leaving_1 : decode cX8_leaving 1 = .ok (.invokestatic 127, 3) := by decide +kernel
set_option maxRecDepth 20000 in
theorem dX8_leaving_4 : decode cX8_leaving 4 = .ok (.ifCond .eq 15, 3) := by decide +kernel
set_option maxRecDepth 20000 in
theorem dX8_leaving_7 : decode cX8_leaving 7 = .ok (.iload_n 2, 1) := by decide +kernel
set_option maxRecDepth 20000 in
theorem dX8_leaving_8 : decode cX8_leaving 8 = .ok (.invokestatic 127, 3) := by decide +kernel
set_option maxRecDepth 20000 in
theorem dX8_leaving_11 : decode cX8_leaving 11 = .ok (.ifCond .eq 8, 3) := by decide +kernel
set_option maxRecDepth 20000 in
theorem dX8_leaving_14 : decode cX8_leaving 14 = .ok (.iload_n 3, 1) := by decide +kernel
set_option maxRecDepth 20000 in
theorem dX8_leaving_15 : decode cX8_leaving 15 = .ok (.iconst (-1), 1) := by decide +kernel
set_option maxRecDepth 20000 in
theorem dX8_leaving_16 : decode cX8_leaving 16 = .ok (.if_icmp .ge 6, 3) := by decide +kernel
set_option maxRecDepth 20000 in
theorem dX8_leaving_19 : decode cX8_leaving 19 = .ok (.bipush (-2), 2) := by decide +kernel
set_option maxRecDepth 20000 in
theorem dX8_leaving_21 : decode cX8_leaving 21 = .ok (.ireturn, 1) := by decide +kernel
set_option maxRecDepth 20000 in
theorem dX8_leaving_22 : decode cX8_leaving 22 = .ok (.aload_n 0, 1) := by decide +kernel
set_option maxRecDepth 20000 in
theorem dX8_leaving_23 : decode cX8_leaving 23 = .ok (.iload_n 1, 1) := by decide +kernel
set_option maxRecDepth 20000 in
theorem dX8_leaving_24 : decode cX8_leaving 24 = .ok (.iload_n 2, 1) := by decide +kernel
set_option maxRecDepth 20000 in
theorem dX8_leaving_25 : decode cX8_leaving 25 = .ok (.invokevirtual 217, 3) := by decide +kernel
set_option maxRecDepth 20000 in
theorem dX8_leaving_28 : decode cX8_leaving 28 = .ok (.istore 4, 2) := by decide +kernel
set_option maxRecDepth 20000 in
theorem dX8_leaving_30 : decode cX8_leaving 30 = .ok (.iload_n 3, 1) := by decide +kernel
set_option maxRecDepth 20000 in
theorem dX8_leaving_31 : decode cX8_leaving 31 = .ok (.iconst (-1), 1) := by decide +kernel
set_option maxRecDepth 20000 in
theorem dX8_leaving_32 : decode cX8_leaving 32 = .ok (.if_icmp .ne 8, 3) := by decide +kernel
set_option maxRecDepth 20000 in
theorem dX8_leaving_35 : decode cX8_leaving 35 = .ok (.iload 4, 2) := by decide +kernel
set_option maxRecDepth 20000 in
theorem dX8_leaving_37 : decode cX8_leaving 37 = .ok (.goto 19, 3) := by decide +kernel
set_option maxRecDepth 20000 in
theorem dX8_leaving_40 : decode cX8_leaving 40 = .ok (.iload_n 3, 1) := by decide +kernel
set_option maxRecDepth 20000 in
theorem dX8_leaving_41 : decode cX8_leaving 41 = .ok (.iload 4, 2) := by decide +kernel
set_option maxRecDepth 20000 in
theorem dX8_leaving_43 : decode cX8_leaving 43 = .ok (.if_icmp .ge 12, 3) := by decide +kernel
set_option maxRecDepth 20000 in
theorem dX8_leaving_46 : decode cX8_leaving 46 = .ok (.aload_n 0, 1) := by decide +kernel
set_option maxRecDepth 20000 in
theorem dX8_leaving_47 : decode cX8_leaving 47 = .ok (.getfield 62, 3) := by decide +kernel
set_option maxRecDepth 20000 in
theorem dX8_leaving_50 : decode cX8_leaving 50 = .ok (.iload_n 3, 1) := by decide +kernel
set_option maxRecDepth 20000 in
theorem dX8_leaving_51 : decode cX8_leaving 51 = .ok (.iaload, 1) := by decide +kernel
set_option maxRecDepth 20000 in
theorem dX8_leaving_52 : decode cX8_leaving 52 = .ok (.goto 4, 3) := by decide +kernel
set_option maxRecDepth 20000 in
theorem dX8_leaving_55 : decode cX8_leaving 55 = .ok (.iconst (-1), 1) := by decide +kernel
set_option maxRecDepth 20000 in
theorem dX8_leaving_56 : decode cX8_leaving 56 = .ok (.ireturn, 1) := by decide +kernel
def f_X8_leaving (N : Nat) (c_askers : Int32) (c_told : Nat → Int32) (c_wish : Nat → Int32) (c_can : Nat → Int32) (c_ring : Nat → Int32) (a1 : Int32) (a2 : Int32) (a3 : Int32) : Option (Int32 × (Nat → Int32) × (Nat → Int32)) :=
  (f_X8_isTold N a1).bind fun r1 =>
  (if r1 = 0 then
    some ((-2 : Int32), c_can, c_ring)
  else
    (f_X8_isTold N a2).bind fun r4 =>
    (if r4 = 0 then
      some ((-2 : Int32), c_can, c_ring)
    else
      (if (-1 : Int32) ≤ a3 then
        (f_X8_findRing N c_askers c_told c_wish c_can c_ring a1 a2).bind fun (r8, o9, o10) =>
        (if a3 = (-1 : Int32) then
          some (r8, o9, o10)
        else
          (if r8 ≤ a3 then
            some ((-1 : Int32), o9, o10)
          else
            (rdI 8 o10 a3).bind fun t14 =>
            some (t14, o9, o10)))
      else
        some ((-2 : Int32), c_can, c_ring))))
set_option maxHeartbeats 4000000 in
set_option maxRecDepth 100000 in
theorem c_X8_leaving {N : Nat} {c_askers : Int32} {c_told : Nat → Int32} {c_wish : Nat → Int32} {c_can : Nat → Int32} {c_ring : Nat → Int32} {u_places : Int32} {u_above : Int64} {u_below : Int64} {u_full : Int32} {u_firsts : Int32} {u_freed : Int32} {u_whole : Int64} {a1 : Int32} {a2 : Int32} {a3 : Int32} {res : Int32 × (Nat → Int32) × (Nat → Int32)} (hf : f_X8_leaving N c_askers c_told c_wish c_can c_ring a1 a2 a3 = some res) : Con mu_X8_leaving [.ref 0, .int a1, .int a2, .int a3] (w_X8_leaving c_askers c_can c_ring c_told c_wish u_places u_above u_below u_full u_firsts u_freed u_whole) (some (.int res.1)) (w_X8_leaving c_askers res.2.1 res.2.2 c_told c_wish u_places u_above u_below u_full u_firsts u_freed u_whole) := by
  refine Con.mk (show plainName RX8 = true by decide +kernel) (leb rfl) (fun κ ω A ad => ?_)
  change GG mu_X8_leaving κ ω A (QR κ ω A ad (some (.int res.1)) (w_X8_leaving c_askers res.2.1 res.2.2 c_told c_wish u_places u_above u_below u_full u_firsts u_freed u_whole)) ad 0 0 0 (w_X8_leaving c_askers c_can c_ring c_told c_wish u_places u_above u_below u_full u_firsts u_freed u_whole) [some (.ref 0), some (.int a1), some (.int a2), some (.int a3), none] []
  refine G_iload_n dX8_leaving_0 rfl rfl ?_
  obtain ⟨r1, hc2, hf⟩ := ob hf
  refine G_callS (μ2 := mu_X8_isTold) (As := [.int a1]) (w2 := (w_X8_leaving c_askers c_can c_ring c_told c_wish u_places u_above u_below u_full u_firsts u_freed u_whole)) (wc := []) (wc2 := []) (rest := []) (rv := [.int r1]) [] [] [0, 1, 2, 3, 4] [0, 1, 2, 3, 4] (c_X8_isTold hc2) cw_X8_isTold m_X8_127 rfl dX8_leaving_1 rfl ⟨leb rfl, leb rfl⟩ ⟨rfl, rfl⟩ (Fit.mk rfl rfl rfl) rfl (leb rfl) (ROsub.nil rfl rfl) rfl ?_
  change GG _ _ _ _ _ _ _ _ _ (w_X8_leaving c_askers c_can c_ring c_told c_wish u_places u_above u_below u_full u_firsts u_freed u_whole) [some (.ref 0), some (.int a1), some (.int a2), some (.int a3), none] [.int r1]
  refine G_if_eq 19 dX8_leaving_4 (by decide) (fun h3 => ?_) (fun h3 => ?_)
  · replace hf := ob_t h3 hf
    refine G_bipush (-2 : Int32) dX8_leaving_19 (by decide) ?_
    obtain rfl := os hf
    exact G_ireturn dX8_leaving_21 rfl
  · replace hf := ob_f h3 hf
    refine G_iload_n dX8_leaving_7 rfl rfl ?_
    obtain ⟨r4, hc5, hf⟩ := ob hf
    refine G_callS (μ2 := mu_X8_isTold) (As := [.int a2]) (w2 := (w_X8_leaving c_askers c_can c_ring c_told c_wish u_places u_above u_below u_full u_firsts u_freed u_whole)) (wc := []) (wc2 := []) (rest := []) (rv := [.int r4]) [] [] [0, 1, 2, 3, 4] [0, 1, 2, 3, 4] (c_X8_isTold hc5) cw_X8_isTold m_X8_127 rfl dX8_leaving_8 rfl ⟨leb rfl, leb rfl⟩ ⟨rfl, rfl⟩ (Fit.mk rfl rfl rfl) rfl (leb rfl) (ROsub.nil rfl rfl) rfl ?_
    change GG _ _ _ _ _ _ _ _ _ (w_X8_leaving c_askers c_can c_ring c_told c_wish u_places u_above u_below u_full u_firsts u_freed u_whole) [some (.ref 0), some (.int a1), some (.int a2), some (.int a3), none] [.int r4]
    refine G_if_eq 19 dX8_leaving_11 (by decide) (fun h6 => ?_) (fun h6 => ?_)
    · replace hf := ob_t h6 hf
      refine G_bipush (-2 : Int32) dX8_leaving_19 (by decide) ?_
      obtain rfl := os hf
      exact G_ireturn dX8_leaving_21 rfl
    · replace hf := ob_f h6 hf
      refine G_iload_n dX8_leaving_14 rfl rfl ?_
      refine G_iconst (-1 : Int32) dX8_leaving_15 (by decide) ?_
      refine G_icmp_ge 22 dX8_leaving_16 (by decide) (fun h7 => ?_) (fun h7 => ?_)
      · replace hf := ob_t h7 hf
        refine G_aload_n dX8_leaving_22 rfl rfl ?_
        refine G_iload_n dX8_leaving_23 rfl rfl ?_
        refine G_iload_n dX8_leaving_24 rfl rfl ?_
        obtain ⟨⟨r8, o9, o10⟩, hc11, hf⟩ := ob hf
        refine G_callV (μ2 := mu_X8_findRing) (As := [.int a1, .int a2]) (w2 := (w_X8_leaving c_askers o9 o10 c_told c_wish u_places u_above u_below u_full u_firsts u_freed u_whole)) (wc := (w_X8_findRing c_askers c_can c_ring c_told c_wish u_places u_above u_below u_full u_firsts u_freed u_whole)) (wc2 := (w_X8_findRing c_askers o9 o10 c_told c_wish u_places u_above u_below u_full u_firsts u_freed u_whole)) (rest := []) (rv := [.int r8]) [0, 1, 2, 3, 4] [1000, 1001, 1002, 1003, 1004, 1005, 1006, 1007, 1008, 1009, 1010, 1011, 1012, 1013, 1014, 1015, 1016] [] [0, 1, 2, 3, 4] (c_X8_findRing hc11) cw_X8_findRing m_X8_217 dX8_leaving_25 rfl ⟨leb rfl, leb rfl⟩ ⟨rfl, rfl⟩ rfl ⟨_, rfl, rfl⟩ (Fit.mk rfl rfl rfl) rfl (leb rfl) (ROsub.nil rfl rfl) rfl ?_
        change GG _ _ _ _ _ _ _ _ _ (w_X8_leaving c_askers o9 o10 c_told c_wish u_places u_above u_below u_full u_firsts u_freed u_whole) [some (.ref 0), some (.int a1), some (.int a2), some (.int a3), none] [.int r8]
        refine G_istore dX8_leaving_28 (ltb rfl) ?_
        change GG _ _ _ _ _ _ _ _ _ _ [some (.ref 0), some (.int a1), some (.int a2), some (.int a3), some (.int r8)] _
        refine G_iload_n dX8_leaving_30 rfl rfl ?_
        refine G_iconst (-1 : Int32) dX8_leaving_31 (by decide) ?_
        refine G_icmp_ne 40 dX8_leaving_32 (by decide) (fun h12 => ?_) (fun h12 => ?_)
        · replace hf := ob_f h12 hf
          refine G_iload_n dX8_leaving_40 rfl rfl ?_
          refine G_iload dX8_leaving_41 rfl ?_
          refine G_icmp_ge 55 dX8_leaving_43 (by decide) (fun h13 => ?_) (fun h13 => ?_)
          · replace hf := ob_t h13 hf
            refine G_iconst (-1 : Int32) dX8_leaving_55 (by decide) ?_
            obtain rfl := os hf
            exact G_ireturn dX8_leaving_56 rfl
          · replace hf := ob_f h13 hf
            refine G_aload_n dX8_leaving_46 rfl rfl ?_
            refine G_get (v := .ref 2) F_X8_62 dX8_leaving_47 rfl rfl ?_
            refine G_iload_n dX8_leaving_50 rfl rfl ?_
            obtain ⟨t14, ht14, hf⟩ := ob hf
            refine G_iald dX8_leaving_51 rfl ht14 ?_
            refine G_goto 56 dX8_leaving_52 (by decide) ?_
            obtain rfl := os hf
            exact G_ireturn dX8_leaving_56 rfl
        · replace hf := ob_t h12 hf
          refine G_iload dX8_leaving_35 rfl ?_
          refine G_goto 56 dX8_leaving_37 (by decide) ?_
          obtain rfl := os hf
          exact G_ireturn dX8_leaving_56 rfl
      · replace hf := ob_f h7 hf
        refine G_bipush (-2 : Int32) dX8_leaving_19 (by decide) ?_
        obtain rfl := os hf
        exact G_ireturn dX8_leaving_21 rfl
set_option maxRecDepth 20000 in
theorem dX8_picks_0 : decode cX8_picks 0 = .ok (.iconst 0, 1) := by decide +kernel
set_option maxRecDepth 20000 in
theorem dX8_picks_1 : decode cX8_picks 1 = .ok (.istore_n 3, 1) := by decide +kernel
set_option maxRecDepth 20000 in
theorem dX8_picks_2 : decode cX8_picks 2 = .ok (.iconst 1, 1) := by decide +kernel
set_option maxRecDepth 20000 in
theorem dX8_picks_3 : decode cX8_picks 3 = .ok (.istore 4, 2) := by decide +kernel
set_option maxRecDepth 20000 in
theorem dX8_picks_5 : decode cX8_picks 5 = .ok (.iload 4, 2) := by decide +kernel
set_option maxRecDepth 20000 in
theorem dX8_picks_7 : decode cX8_picks 7 = .ok (.aload_n 0, 1) := by decide +kernel
set_option maxRecDepth 20000 in
theorem dX8_picks_8 : decode cX8_picks 8 = .ok (.getfield 97, 3) := by decide +kernel
set_option maxRecDepth 20000 in
theorem dX8_picks_11 : decode cX8_picks 11 = .ok (.if_icmp .gt 44, 3) := by decide +kernel
set_option maxRecDepth 20000 in
theorem dX8_picks_14 : decode cX8_picks 14 = .ok (.aload_n 0, 1) := by decide +kernel
set_option maxRecDepth 20000 in
theorem dX8_picks_15 : decode cX8_picks 15 = .ok (.iload_n 1, 1) := by decide +kernel
set_option maxRecDepth 20000 in
theorem dX8_picks_16 : decode cX8_picks 16 = .ok (.iload 4, 2) := by decide +kernel
set_option maxRecDepth 20000 in
theorem dX8_picks_18 : decode cX8_picks 18 = .ok (.iload_n 2, 1) := by decide +kernel
set_option maxRecDepth 20000 in
theorem dX8_picks_19 : decode cX8_picks 19 = .ok (.invokevirtual 120, 3) := by decide +kernel
set_option maxRecDepth 20000 in
theorem dX8_picks_22 : decode cX8_picks 22 = .ok (.iconst (-1), 1) := by decide +kernel
set_option maxRecDepth 20000 in
theorem dX8_picks_23 : decode cX8_picks 23 = .ok (.if_icmp .eq 24, 3) := by decide +kernel
set_option maxRecDepth 20000 in
theorem dX8_picks_26 : decode cX8_picks 26 = .ok (.aload_n 0, 1) := by decide +kernel
set_option maxRecDepth 20000 in
theorem dX8_picks_27 : decode cX8_picks 27 = .ok (.iload_n 1, 1) := by decide +kernel
set_option maxRecDepth 20000 in
theorem dX8_picks_28 : decode cX8_picks 28 = .ok (.iload 4, 2) := by decide +kernel
set_option maxRecDepth 20000 in
theorem dX8_picks_30 : decode cX8_picks 30 = .ok (.invokevirtual 111, 3) := by decide +kernel
set_option maxRecDepth 20000 in
theorem dX8_picks_33 : decode cX8_picks 33 = .ok (.aload_n 0, 1) := by decide +kernel
set_option maxRecDepth 20000 in
theorem dX8_picks_34 : decode cX8_picks 34 = .ok (.iload_n 1, 1) := by decide +kernel
set_option maxRecDepth 20000 in
theorem dX8_picks_35 : decode cX8_picks 35 = .ok (.iload_n 3, 1) := by decide +kernel
set_option maxRecDepth 20000 in
theorem dX8_picks_36 : decode cX8_picks 36 = .ok (.invokevirtual 111, 3) := by decide +kernel
set_option maxRecDepth 20000 in
theorem dX8_picks_39 : decode cX8_picks 39 = .ok (.if_icmp .ge 8, 3) := by decide +kernel
set_option maxRecDepth 20000 in
theorem dX8_picks_42 : decode cX8_picks 42 = .ok (.iload 4, 2) := by decide +kernel
set_option maxRecDepth 20000 in
theorem dX8_picks_44 : decode cX8_picks 44 = .ok (.goto 4, 3) := by decide +kernel
set_option maxRecDepth 20000 in
theorem dX8_picks_47 : decode cX8_picks 47 = .ok (.iload_n 3, 1) := by decide +kernel
set_option maxRecDepth 20000 in
theorem dX8_picks_48 : decode cX8_picks 48 = .ok (.istore_n 3, 1) := by decide +kernel
set_option maxRecDepth 20000 in
theorem dX8_picks_49 : decode cX8_picks 49 = .ok (.iinc 4 1, 3) := by decide +kernel
set_option maxRecDepth 20000 in
theorem dX8_picks_52 : decode cX8_picks 52 = .ok (.goto (-47), 3) := by decide +kernel
set_option maxRecDepth 20000 in
theorem dX8_picks_55 : decode cX8_picks 55 = .ok (.iload_n 3, 1) := by decide +kernel
set_option maxRecDepth 20000 in
theorem dX8_picks_56 : decode cX8_picks 56 = .ok (.ireturn, 1) := by decide +kernel
def f_X8_picks_5 (N : Nat) (c_places : Int32) (c_seats : Nat → Int32) (c_weight : Nat → Int32) (c_wish : Nat → Int32) : Nat → Int32 → Int32 → Int32 → Int32 → Option (Int32)
  | 0, _, _, _, _ => none
  | n + 1, v1, v2, v3, v4 =>
    (if c_places < v4 then
      some v3
    else
      (f_X8_takes N c_places c_seats c_weight c_wish v1 v4 v2).bind fun r2 =>
      (if r2 = (-1 : Int32) then
        f_X8_picks_5 N c_places c_seats c_weight c_wish n v1 v2 v3 (v4 + 1)
      else
        (f_X8_worthOf N c_wish v1 v4).bind fun r5 =>
        (f_X8_worthOf N c_wish v1 v3).bind fun r7 =>
        (if r7 ≤ r5 then
          f_X8_picks_5 N c_places c_seats c_weight c_wish n v1 v2 v3 (v4 + 1)
        else
          f_X8_picks_5 N c_places c_seats c_weight c_wish n v1 v2 v4 (v4 + 1))))
set_option maxHeartbeats 4000000 in
set_option maxRecDepth 100000 in
theorem g_X8_picks_5 {κ : KC} {ω : KW} {A : Nat → Prop} {ad : Nat → Nat} {u_askers : Int32} {u_above : Int64} {u_below : Int64} {u_full : Int32} {u_firsts : Int32} {u_freed : Int32} {u_whole : Int64} {N : Nat} {c_places : Int32} {c_seats : Nat → Int32} {c_weight : Nat → Int32} {c_wish : Nat → Int32}  {res : Int32} : ∀ (n : Nat) {v1 : Int32} {v2 : Int32} {v3 : Int32} {v4 : Int32}, f_X8_picks_5 N c_places c_seats c_weight c_wish n v1 v2 v3 v4 = some res → GG mu_X8_picks κ ω A (QR κ ω A ad (some (.int res)) (w_X8_picks c_places c_seats c_weight c_wish u_askers u_above u_below u_full u_firsts u_freed u_whole)) ad 0 0 5 (w_X8_picks c_places c_seats c_weight c_wish u_askers u_above u_below u_full u_firsts u_freed u_whole) [some (.ref 0), some (.int v1), some (.int v2), some (.int v3), some (.int v4)] [] := by
  intro n
  induction n with
  | zero => intro v1 v2 v3 v4 hf; exact ob_0 hf
  | succ n ih =>
    intro v1 v2 v3 v4 hf
    refine G_iload dX8_picks_5 rfl ?_
    refine G_aload_n dX8_picks_7 rfl rfl ?_
    refine G_get (v := .int c_places) F_X8_97 dX8_picks_8 rfl rfl ?_
    refine G_icmp_gt 55 dX8_picks_11 (by decide) (fun h1 => ?_) (fun h1 => ?_)
    · replace hf := ob_t h1 hf
      refine G_iload_n dX8_picks_55 rfl rfl ?_
      obtain rfl := os hf
      exact G_ireturn dX8_picks_56 rfl
    · replace hf := ob_f h1 hf
      refine G_aload_n dX8_picks_14 rfl rfl ?_
      refine G_iload_n dX8_picks_15 rfl rfl ?_
      refine G_iload dX8_picks_16 rfl ?_
      refine G_iload_n dX8_picks_18 rfl rfl ?_
      obtain ⟨r2, hc3, hf⟩ := ob hf
      refine G_callV (μ2 := mu_X8_takes) (As := [.int v1, .int v4, .int v2]) (w2 := (w_X8_picks c_places c_seats c_weight c_wish u_askers u_above u_below u_full u_firsts u_freed u_whole)) (wc := (w_X8_takes c_places c_seats c_weight c_wish u_askers u_above u_below u_full u_firsts u_freed u_whole)) (wc2 := (w_X8_takes c_places c_seats c_weight c_wish u_askers u_above u_below u_full u_firsts u_freed u_whole)) (rest := []) (rv := [.int r2]) [0, 1, 2, 3] [1000, 1001, 1002, 1003, 1004, 1005, 1006, 1007, 1008, 1009, 1010, 1011, 1012, 1013, 1014, 1015, 1016, 1017] [] [0, 1, 2, 3] (c_X8_takes hc3) cw_X8_takes m_X8_120 dX8_picks_19 rfl ⟨leb rfl, leb rfl⟩ ⟨rfl, rfl⟩ rfl ⟨_, rfl, rfl⟩ (Fit.mk rfl rfl rfl) rfl (leb rfl) (ROsub.nil rfl rfl) rfl ?_
      change GG _ _ _ _ _ _ _ _ _ (w_X8_picks c_places c_seats c_weight c_wish u_askers u_above u_below u_full u_firsts u_freed u_whole) [some (.ref 0), some (.int v1), some (.int v2), some (.int v3), some (.int v4)] [.int r2]
      refine G_iconst (-1 : Int32) dX8_picks_22 (by decide) ?_
      refine G_icmp_eq 47 dX8_picks_23 (by decide) (fun h4 => ?_) (fun h4 => ?_)
      · replace hf := ob_t h4 hf
        refine G_iload_n dX8_picks_47 rfl rfl ?_
        refine G_istore_n dX8_picks_48 rfl (ltb rfl) ?_
        change GG _ _ _ _ _ _ _ _ _ _ [some (.ref 0), some (.int v1), some (.int v2), some (.int v3), some (.int v4)] _
        refine G_iinc 1 dX8_picks_49 (by decide) rfl (ltb rfl) ?_
        change GG _ _ _ _ _ _ _ _ _ _ [some (.ref 0), some (.int v1), some (.int v2), some (.int v3), some (.int (v4 + 1))] _
        refine G_goto 5 dX8_picks_52 (by decide) ?_
        exact ih hf
      · replace hf := ob_f h4 hf
        refine G_aload_n dX8_picks_26 rfl rfl ?_
        refine G_iload_n dX8_picks_27 rfl rfl ?_
        refine G_iload dX8_picks_28 rfl ?_
        obtain ⟨r5, hc6, hf⟩ := ob hf
        refine G_callV (μ2 := mu_X8_worthOf) (As := [.int v1, .int v4]) (w2 := (w_X8_picks c_places c_seats c_weight c_wish u_askers u_above u_below u_full u_firsts u_freed u_whole)) (wc := (w_X8_worthOf c_wish u_askers c_places u_above u_below u_full u_firsts u_freed u_whole)) (wc2 := (w_X8_worthOf c_wish u_askers c_places u_above u_below u_full u_firsts u_freed u_whole)) (rest := []) (rv := [.int r5]) [0, 3] [1, 1000, 2, 1001, 1002, 1003, 1004, 1005, 1006, 1007, 1008, 1009, 1010, 1011, 1012, 1013, 1014, 1015, 1016, 1017] [1, 2] [2, 0, 1, 3] (c_X8_worthOf hc6) cw_X8_worthOf m_X8_111 dX8_picks_30 rfl ⟨leb rfl, leb rfl⟩ ⟨rfl, rfl⟩ rfl ⟨_, rfl, rfl⟩ (Fit.mk rfl rfl rfl) rfl (leb rfl) (ROsub.nil rfl rfl) rfl ?_
        change GG _ _ _ _ _ _ _ _ _ (w_X8_picks c_places c_seats c_weight c_wish u_askers u_above u_below u_full u_firsts u_freed u_whole) [some (.ref 0), some (.int v1), some (.int v2), some (.int v3), some (.int v4)] [.int r5]
        refine G_aload_n dX8_picks_33 rfl rfl ?_
        refine G_iload_n dX8_picks_34 rfl rfl ?_
        refine G_iload_n dX8_picks_35 rfl rfl ?_
        obtain ⟨r7, hc8, hf⟩ := ob hf
        refine G_callV (μ2 := mu_X8_worthOf) (As := [.int v1, .int v3]) (w2 := (w_X8_picks c_places c_seats c_weight c_wish u_askers u_above u_below u_full u_firsts u_freed u_whole)) (wc := (w_X8_worthOf c_wish u_askers c_places u_above u_below u_full u_firsts u_freed u_whole)) (wc2 := (w_X8_worthOf c_wish u_askers c_places u_above u_below u_full u_firsts u_freed u_whole)) (rest := [.int r5]) (rv := [.int r7]) [0, 3] [1, 1000, 2, 1001, 1002, 1003, 1004, 1005, 1006, 1007, 1008, 1009, 1010, 1011, 1012, 1013, 1014, 1015, 1016, 1017] [1, 2] [2, 0, 1, 3] (c_X8_worthOf hc8) cw_X8_worthOf m_X8_111 dX8_picks_36 rfl ⟨leb rfl, leb rfl⟩ ⟨rfl, rfl⟩ rfl ⟨_, rfl, rfl⟩ (Fit.mk rfl rfl rfl) rfl (leb rfl) (ROsub.nil rfl rfl) rfl ?_
        change GG _ _ _ _ _ _ _ _ _ (w_X8_picks c_places c_seats c_weight c_wish u_askers u_above u_below u_full u_firsts u_freed u_whole) [some (.ref 0), some (.int v1), some (.int v2), some (.int v3), some (.int v4)] [.int r7, .int r5]
        refine G_icmp_ge 47 dX8_picks_39 (by decide) (fun h9 => ?_) (fun h9 => ?_)
        · replace hf := ob_t h9 hf
          refine G_iload_n dX8_picks_47 rfl rfl ?_
          refine G_istore_n dX8_picks_48 rfl (ltb rfl) ?_
          change GG _ _ _ _ _ _ _ _ _ _ [some (.ref 0), some (.int v1), some (.int v2), some (.int v3), some (.int v4)] _
          refine G_iinc 1 dX8_picks_49 (by decide) rfl (ltb rfl) ?_
          change GG _ _ _ _ _ _ _ _ _ _ [some (.ref 0), some (.int v1), some (.int v2), some (.int v3), some (.int (v4 + 1))] _
          refine G_goto 5 dX8_picks_52 (by decide) ?_
          exact ih hf
        · replace hf := ob_f h9 hf
          refine G_iload dX8_picks_42 rfl ?_
          refine G_goto 48 dX8_picks_44 (by decide) ?_
          refine G_istore_n dX8_picks_48 rfl (ltb rfl) ?_
          change GG _ _ _ _ _ _ _ _ _ _ [some (.ref 0), some (.int v1), some (.int v2), some (.int v4), some (.int v4)] _
          refine G_iinc 1 dX8_picks_49 (by decide) rfl (ltb rfl) ?_
          change GG _ _ _ _ _ _ _ _ _ _ [some (.ref 0), some (.int v1), some (.int v2), some (.int v4), some (.int (v4 + 1))] _
          refine G_goto 5 dX8_picks_52 (by decide) ?_
          exact ih hf
def f_X8_picks (N : Nat) (c_places : Int32) (c_seats : Nat → Int32) (c_weight : Nat → Int32) (c_wish : Nat → Int32) (a1 : Int32) (a2 : Int32) : Option (Int32) :=
  f_X8_picks_5 N c_places c_seats c_weight c_wish N a1 a2 0 1
set_option maxHeartbeats 4000000 in
set_option maxRecDepth 100000 in
theorem c_X8_picks {N : Nat} {c_places : Int32} {c_seats : Nat → Int32} {c_weight : Nat → Int32} {c_wish : Nat → Int32}  {u_askers : Int32} {u_above : Int64} {u_below : Int64} {u_full : Int32} {u_firsts : Int32} {u_freed : Int32} {u_whole : Int64} {a1 : Int32} {a2 : Int32} {res : Int32} (hf : f_X8_picks N c_places c_seats c_weight c_wish a1 a2 = some res) : Con mu_X8_picks [.ref 0, .int a1, .int a2] (w_X8_picks c_places c_seats c_weight c_wish u_askers u_above u_below u_full u_firsts u_freed u_whole) (some (.int res)) (w_X8_picks c_places c_seats c_weight c_wish u_askers u_above u_below u_full u_firsts u_freed u_whole) := by
  refine Con.mk (show plainName RX8 = true by decide +kernel) (leb rfl) (fun κ ω A ad => ?_)
  change GG mu_X8_picks κ ω A (QR κ ω A ad (some (.int res)) (w_X8_picks c_places c_seats c_weight c_wish u_askers u_above u_below u_full u_firsts u_freed u_whole)) ad 0 0 0 (w_X8_picks c_places c_seats c_weight c_wish u_askers u_above u_below u_full u_firsts u_freed u_whole) [some (.ref 0), some (.int a1), some (.int a2), none, none] []
  refine G_iconst 0 dX8_picks_0 (by decide) ?_
  refine G_istore_n dX8_picks_1 rfl (ltb rfl) ?_
  change GG _ _ _ _ _ _ _ _ _ _ [some (.ref 0), some (.int a1), some (.int a2), some (.int 0), none] _
  refine G_iconst 1 dX8_picks_2 (by decide) ?_
  refine G_istore dX8_picks_3 (ltb rfl) ?_
  change GG _ _ _ _ _ _ _ _ _ _ [some (.ref 0), some (.int a1), some (.int a2), some (.int 0), some (.int 1)] _
  exact g_X8_picks_5 N hf
set_option maxRecDepth 20000 in
theorem dX8_chance_0 : decode cX8_chance 0 = .ok (.aload_n 0, 1) := by decide +kernel
set_option maxRecDepth 20000 in
theorem dX8_chance_1 : decode cX8_chance 1 = .ok (.iload_n 1, 1) := by decide +kernel
set_option maxRecDepth 20000 in
theorem dX8_chance_2 : decode cX8_chance 2 = .ok (.invokevirtual 108, 3) := by decide +kernel
set_option maxRecDepth 20000 in
theorem dX8_chance_5 : decode cX8_chance 5 = .ok (.ifCond .eq 11, 3) := by decide +kernel
set_option maxRecDepth 20000 in
theorem dX8_chance_8 : decode cX8_chance 8 = .ok (.aload_n 0, 1) := by decide +kernel
set_option maxRecDepth 20000 in
theorem dX8_chance_9 : decode cX8_chance 9 = .ok (.iload_n 2, 1) := by decide +kernel
set_option maxRecDepth 20000 in
theorem dX8_chance_10 : decode cX8_chance 10 = .ok (.invokevirtual 100, 3) := by decide +kernel
set_option maxRecDepth 20000 in
theorem dX8_chance_13 : decode cX8_chance 13 = .ok (.ifCond .ne 6, 3) := by decide +kernel
set_option maxRecDepth 20000 in
theorem dX8_chance_16 : decode cX8_chance 16 = .ok (.bipush (-2), 2) := by decide +kernel
set_option maxRecDepth 20000 in
theorem dX8_chance_18 : decode cX8_chance 18 = .ok (.ireturn, 1) := by decide +kernel
set_option maxRecDepth 20000 in
theorem dX8_chance_19 : decode cX8_chance 19 = .ok (.aload_n 0, 1) := by decide +kernel
set_option maxRecDepth 20000 in
theorem dX8_chance_20 : decode cX8_chance 20 = .ok (.invokevirtual 117, 3) := by decide +kernel
set_option maxRecDepth 20000 in
theorem dX8_chance_23 : decode cX8_chance 23 = .ok (.iconst 1, 1) := by decide +kernel
set_option maxRecDepth 20000 in
theorem dX8_chance_24 : decode cX8_chance 24 = .ok (.aload_n 0, 1) := by decide +kernel
set_option maxRecDepth 20000 in
theorem dX8_chance_25 : decode cX8_chance 25 = .ok (.getfield 89, 3) := by decide +kernel
set_option maxRecDepth 20000 in
theorem dX8_chance_28 : decode cX8_chance 28 = .ok (.ishl, 1) := by decide +kernel
set_option maxRecDepth 20000 in
theorem dX8_chance_29 : decode cX8_chance 29 = .ok (.istore_n 3, 1) := by decide +kernel
set_option maxRecDepth 20000 in
theorem dX8_chance_30 : decode cX8_chance 30 = .ok (.iconst 0, 1) := by decide +kernel
set_option maxRecDepth 20000 in
theorem dX8_chance_31 : decode cX8_chance 31 = .ok (.istore 4, 2) := by decide +kernel
set_option maxRecDepth 20000 in
theorem dX8_chance_33 : decode cX8_chance 33 = .ok (.iload 4, 2) := by decide +kernel
set_option maxRecDepth 20000 in
theorem dX8_chance_35 : decode cX8_chance 35 = .ok (.iload_n 3, 1) := by decide +kernel
set_option maxRecDepth 20000 in
theorem dX8_chance_36 : decode cX8_chance 36 = .ok (.if_icmp .ge 60, 3) := by decide +kernel
set_option maxRecDepth 20000 in
theorem dX8_chance_39 : decode cX8_chance 39 = .ok (.iconst 0, 1) := by decide +kernel
set_option maxRecDepth 20000 in
theorem dX8_chance_40 : decode cX8_chance 40 = .ok (.istore 5, 2) := by decide +kernel
set_option maxRecDepth 20000 in
theorem dX8_chance_42 : decode cX8_chance 42 = .ok (.iload 5, 2) := by decide +kernel
set_option maxRecDepth 20000 in
theorem dX8_chance_44 : decode cX8_chance 44 = .ok (.aload_n 0, 1) := by decide +kernel
set_option maxRecDepth 20000 in
theorem dX8_chance_45 : decode cX8_chance 45 = .ok (.getfield 114, 3) := by decide +kernel
set_option maxRecDepth 20000 in
theorem dX8_chance_48 : decode cX8_chance 48 = .ok (.if_icmp .gt 42, 3) := by decide +kernel
set_option maxRecDepth 20000 in
theorem dX8_chance_51 : decode cX8_chance 51 = .ok (.aload_n 0, 1) := by decide +kernel
set_option maxRecDepth 20000 in
theorem dX8_chance_52 : decode cX8_chance 52 = .ok (.getfield 66, 3) := by decide +kernel
set_option maxRecDepth 20000 in
theorem dX8_chance_55 : decode cX8_chance 55 = .ok (.sipush 4096, 3) := by decide +kernel
set_option maxRecDepth 20000 in
theorem dX8_chance_58 : decode cX8_chance 58 = .ok (.iload 4, 2) := by decide +kernel
set_option maxRecDepth 20000 in
theorem dX8_chance_60 : decode cX8_chance 60 = .ok (.imul, 1) := by decide +kernel
set_option maxRecDepth 20000 in
theorem dX8_chance_61 : decode cX8_chance 61 = .ok (.iload 5, 2) := by decide +kernel
set_option maxRecDepth 20000 in
theorem dX8_chance_63 : decode cX8_chance 63 = .ok (.iadd, 1) := by decide +kernel
set_option maxRecDepth 20000 in
theorem dX8_chance_64 : decode cX8_chance 64 = .ok (.iload 4, 2) := by decide +kernel
set_option maxRecDepth 20000 in
theorem dX8_chance_66 : decode cX8_chance 66 = .ok (.ifCond .ne 16, 3) := by decide +kernel
set_option maxRecDepth 20000 in
theorem dX8_chance_69 : decode cX8_chance 69 = .ok (.iload 5, 2) := by decide +kernel
set_option maxRecDepth 20000 in
theorem dX8_chance_71 : decode cX8_chance 71 = .ok (.aload_n 0, 1) := by decide +kernel
set_option maxRecDepth 20000 in
theorem dX8_chance_72 : decode cX8_chance 72 = .ok (.getfield 114, 3) := by decide +kernel
set_option maxRecDepth 20000 in
theorem dX8_chance_75 : decode cX8_chance 75 = .ok (.if_icmp .ne 7, 3) := by decide +kernel
set_option maxRecDepth 20000 in
theorem dX8_chance_78 : decode cX8_chance 78 = .ok (.iconst 1, 1) := by decide +kernel
set_option maxRecDepth 20000 in
theorem dX8_chance_79 : decode cX8_chance 79 = .ok (.goto 4, 3) := by decide +kernel
set_option maxRecDepth 20000 in
theorem dX8_chance_82 : decode cX8_chance 82 = .ok (.iconst 0, 1) := by decide +kernel
set_option maxRecDepth 20000 in
theorem dX8_chance_83 : decode cX8_chance 83 = .ok (.iastore, 1) := by decide +kernel
set_option maxRecDepth 20000 in
theorem dX8_chance_84 : decode cX8_chance 84 = .ok (.iinc 5 1, 3) := by decide +kernel
set_option maxRecDepth 20000 in
theorem dX8_chance_87 : decode cX8_chance 87 = .ok (.goto (-45), 3) := by decide +kernel
set_option maxRecDepth 20000 in
theorem dX8_chance_90 : decode cX8_chance 90 = .ok (.iinc 4 1, 3) := by decide +kernel
set_option maxRecDepth 20000 in
theorem dX8_chance_93 : decode cX8_chance 93 = .ok (.goto (-60), 3) := by decide +kernel
set_option maxRecDepth 20000 in
theorem dX8_chance_96 : decode cX8_chance 96 = .ok (.iconst 0, 1) := by decide +kernel
set_option maxRecDepth 20000 in
theorem dX8_chance_97 : decode cX8_chance 97 = .ok (.istore 4, 2) := by decide +kernel
set_option maxRecDepth 20000 in
theorem dX8_chance_99 : decode cX8_chance 99 = .ok (.iconst 0, 1) := by decide +kernel
set_option maxRecDepth 20000 in
theorem dX8_chance_100 : decode cX8_chance 100 = .ok (.istore 5, 2) := by decide +kernel
set_option maxRecDepth 20000 in
theorem dX8_chance_102 : decode cX8_chance 102 = .ok (.iload 5, 2) := by decide +kernel
set_option maxRecDepth 20000 in
theorem dX8_chance_104 : decode cX8_chance 104 = .ok (.iload_n 3, 1) := by decide +kernel
set_option maxRecDepth 20000 in
theorem dX8_chance_105 : decode cX8_chance 105 = .ok (.if_icmp .ge 207, 3) := by decide +kernel
set_option maxRecDepth 20000 in
theorem dX8_chance_108 : decode cX8_chance 108 = .ok (.iconst 1, 1) := by decide +kernel
set_option maxRecDepth 20000 in
theorem dX8_chance_109 : decode cX8_chance 109 = .ok (.istore 6, 2) := by decide +kernel
set_option maxRecDepth 20000 in
theorem dX8_chance_111 : decode cX8_chance 111 = .ok (.iconst 0, 1) := by decide +kernel
set_option maxRecDepth 20000 in
theorem dX8_chance_112 : decode cX8_chance 112 = .ok (.istore 7, 2) := by decide +kernel
set_option maxRecDepth 20000 in
theorem dX8_chance_114 : decode cX8_chance 114 = .ok (.iconst 0, 1) := by decide +kernel
set_option maxRecDepth 20000 in
theorem dX8_chance_115 : decode cX8_chance 115 = .ok (.istore 8, 2) := by decide +kernel
set_option maxRecDepth 20000 in
theorem dX8_chance_117 : decode cX8_chance 117 = .ok (.iload 8, 2) := by decide +kernel
set_option maxRecDepth 20000 in
theorem dX8_chance_119 : decode cX8_chance 119 = .ok (.aload_n 0, 1) := by decide +kernel
set_option maxRecDepth 20000 in
theorem dX8_chance_120 : decode cX8_chance 120 = .ok (.getfield 89, 3) := by decide +kernel
set_option maxRecDepth 20000 in
theorem dX8_chance_123 : decode cX8_chance 123 = .ok (.if_icmp .ge 23, 3) := by decide +kernel
set_option maxRecDepth 20000 in
theorem dX8_chance_126 : decode cX8_chance 126 = .ok (.iload 7, 2) := by decide +kernel
set_option maxRecDepth 20000 in
theorem dX8_chance_128 : decode cX8_chance 128 = .ok (.iconst 1, 1) := by decide +kernel
set_option maxRecDepth 20000 in
theorem dX8_chance_129 : decode cX8_chance 129 = .ok (.iload 5, 2) := by decide +kernel
set_option maxRecDepth 20000 in
theorem dX8_chance_131 : decode cX8_chance 131 = .ok (.iload 8, 2) := by decide +kernel
set_option maxRecDepth 20000 in
theorem dX8_chance_133 : decode cX8_chance 133 = .ok (.ishr, 1) := by decide +kernel
set_option maxRecDepth 20000 in
theorem dX8_chance_134 : decode cX8_chance 134 = .ok (.iconst 1, 1) := by decide +kernel
set_option maxRecDepth 20000 in
theorem dX8_chance_135 : decode cX8_chance 135 = .ok (.iand, 1) := by decide +kernel
set_option maxRecDepth 20000 in
theorem dX8_chance_136 : decode cX8_chance 136 = .ok (.isub, 1) := by decide +kernel
set_option maxRecDepth 20000 in
theorem dX8_chance_137 : decode cX8_chance 137 = .ok (.iadd, 1) := by decide +kernel
set_option maxRecDepth 20000 in
theorem dX8_chance_138 : decode cX8_chance 138 = .ok (.istore 7, 2) := by decide +kernel
set_option maxRecDepth 20000 in
theorem dX8_chance_140 : decode cX8_chance 140 = .ok (.iinc 8 1, 3) := by decide +kernel
set_option maxRecDepth 20000 in
theorem dX8_chance_143 : decode cX8_chance 143 = .ok (.goto (-26), 3) := by decide +kernel
set_option maxRecDepth 20000 in
theorem dX8_chance_146 : decode cX8_chance 146 = .ok (.iconst 2, 1) := by decide +kernel
set_option maxRecDepth 20000 in
theorem dX8_chance_147 : decode cX8_chance 147 = .ok (.istore 8, 2) := by decide +kernel
set_option maxRecDepth 20000 in
theorem dX8_chance_149 : decode cX8_chance 149 = .ok (.iload 8, 2) := by decide +kernel
set_option maxRecDepth 20000 in
theorem dX8_chance_151 : decode cX8_chance 151 = .ok (.iload 7, 2) := by decide +kernel
set_option maxRecDepth 20000 in
theorem dX8_chance_153 : decode cX8_chance 153 = .ok (.if_icmp .ge 16, 3) := by decide +kernel
set_option maxRecDepth 20000 in
theorem dX8_chance_156 : decode cX8_chance 156 = .ok (.iload 6, 2) := by decide +kernel
set_option maxRecDepth 20000 in
theorem dX8_chance_158 : decode cX8_chance 158 = .ok (.iload 8, 2) := by decide +kernel
set_option maxRecDepth 20000 in
theorem dX8_chance_160 : decode cX8_chance 160 = .ok (.imul, 1) := by decide +kernel
set_option maxRecDepth 20000 in
theorem dX8_chance_161 : decode cX8_chance 161 = .ok (.istore 6, 2) := by decide +kernel
set_option maxRecDepth 20000 in
theorem dX8_chance_163 : decode cX8_chance 163 = .ok (.iinc 8 1, 3) := by decide +kernel
set_option maxRecDepth 20000 in
theorem dX8_chance_166 : decode cX8_chance 166 = .ok (.goto (-17), 3) := by decide +kernel
set_option maxRecDepth 20000 in
theorem dX8_chance_169 : decode cX8_chance 169 = .ok (.iconst 0, 1) := by decide +kernel
set_option maxRecDepth 20000 in
theorem dX8_chance_170 : decode cX8_chance 170 = .ok (.istore 8, 2) := by decide +kernel
set_option maxRecDepth 20000 in
theorem dX8_chance_172 : decode cX8_chance 172 = .ok (.iload 8, 2) := by decide +kernel
set_option maxRecDepth 20000 in
theorem dX8_chance_174 : decode cX8_chance 174 = .ok (.aload_n 0, 1) := by decide +kernel
set_option maxRecDepth 20000 in
theorem dX8_chance_175 : decode cX8_chance 175 = .ok (.getfield 114, 3) := by decide +kernel
set_option maxRecDepth 20000 in
theorem dX8_chance_178 : decode cX8_chance 178 = .ok (.if_icmp .gt 128, 3) := by decide +kernel
set_option maxRecDepth 20000 in
theorem dX8_chance_181 : decode cX8_chance 181 = .ok (.aload_n 0, 1) := by decide +kernel
set_option maxRecDepth 20000 in
theorem dX8_chance_182 : decode cX8_chance 182 = .ok (.getfield 66, 3) := by decide +kernel
set_option maxRecDepth 20000 in
theorem dX8_chance_185 : decode cX8_chance 185 = .ok (.sipush 4096, 3) := by decide +kernel
set_option maxRecDepth 20000 in
theorem dX8_chance_188 : decode cX8_chance 188 = .ok (.iload 5, 2) := by decide +kernel
set_option maxRecDepth 20000 in
theorem dX8_chance_190 : decode cX8_chance 190 = .ok (.imul, 1) := by decide +kernel
set_option maxRecDepth 20000 in
theorem dX8_chance_191 : decode cX8_chance 191 = .ok (.iload 8, 2) := by decide +kernel
set_option maxRecDepth 20000 in
theorem dX8_chance_193 : decode cX8_chance 193 = .ok (.iadd, 1) := by decide +kernel
set_option maxRecDepth 20000 in
theorem dX8_chance_194 : decode cX8_chance 194 = .ok (.iaload, 1) := by decide +kernel
set_option maxRecDepth 20000 in
theorem dX8_chance_195 : decode cX8_chance 195 = .ok (.istore 9, 2) := by decide +kernel
set_option maxRecDepth 20000 in
theorem dX8_chance_197 : decode cX8_chance 197 = .ok (.iconst 0, 1) := by decide +kernel
set_option maxRecDepth 20000 in
theorem dX8_chance_198 : decode cX8_chance 198 = .ok (.istore 10, 2) := by decide +kernel
set_option maxRecDepth 20000 in
theorem dX8_chance_200 : decode cX8_chance 200 = .ok (.iload 10, 2) := by decide +kernel
set_option maxRecDepth 20000 in
theorem dX8_chance_202 : decode cX8_chance 202 = .ok (.aload_n 0, 1) := by decide +kernel
set_option maxRecDepth 20000 in
theorem dX8_chance_203 : decode cX8_chance 203 = .ok (.getfield 89, 3) := by decide +kernel
set_option maxRecDepth 20000 in
theorem dX8_chance_206 : decode cX8_chance 206 = .ok (.if_icmp .ge 94, 3) := by decide +kernel
set_option maxRecDepth 20000 in
theorem dX8_chance_209 : decode cX8_chance 209 = .ok (.iload 9, 2) := by decide +kernel
set_option maxRecDepth 20000 in
theorem dX8_chance_211 : decode cX8_chance 211 = .ok (.ifCond .le 89, 3) := by decide +kernel
set_option maxRecDepth 20000 in
theorem dX8_chance_214 : decode cX8_chance 214 = .ok (.iload 5, 2) := by decide +kernel
set_option maxRecDepth 20000 in
theorem dX8_chance_216 : decode cX8_chance 216 = .ok (.iload 10, 2) := by decide +kernel
set_option maxRecDepth 20000 in
theorem dX8_chance_218 : decode cX8_chance 218 = .ok (.ishr, 1) := by decide +kernel
set_option maxRecDepth 20000 in
theorem dX8_chance_219 : decode cX8_chance 219 = .ok (.iconst 1, 1) := by decide +kernel
set_option maxRecDepth 20000 in
theorem dX8_chance_220 : decode cX8_chance 220 = .ok (.iand, 1) := by decide +kernel
set_option maxRecDepth 20000 in
theorem dX8_chance_221 : decode cX8_chance 221 = .ok (.ifCond .ne 73, 3) := by decide +kernel
set_option maxRecDepth 20000 in
theorem dX8_chance_224 : decode cX8_chance 224 = .ok (.aload_n 0, 1) := by decide +kernel
set_option maxRecDepth 20000 in
theorem dX8_chance_225 : decode cX8_chance 225 = .ok (.iload 10, 2) := by decide +kernel
set_option maxRecDepth 20000 in
theorem dX8_chance_227 : decode cX8_chance 227 = .ok (.iload 8, 2) := by decide +kernel
set_option maxRecDepth 20000 in
theorem dX8_chance_229 : decode cX8_chance 229 = .ok (.invokevirtual 220, 3) := by decide +kernel
set_option maxRecDepth 20000 in
theorem dX8_chance_232 : decode cX8_chance 232 = .ok (.istore 11, 2) := by decide +kernel
set_option maxRecDepth 20000 in
theorem dX8_chance_234 : decode cX8_chance 234 = .ok (.aload_n 0, 1) := by decide +kernel
set_option maxRecDepth 20000 in
theorem dX8_chance_235 : decode cX8_chance 235 = .ok (.getfield 66, 3) := by decide +kernel
set_option maxRecDepth 20000 in
theorem dX8_chance_238 : decode cX8_chance 238 = .ok (.sipush 4096, 3) := by decide +kernel
set_option maxRecDepth 20000 in
theorem dX8_chance_241 : decode cX8_chance 241 = .ok (.iload 5, 2) := by decide +kernel
set_option maxRecDepth 20000 in
theorem dX8_chance_243 : decode cX8_chance 243 = .ok (.iconst 1, 1) := by decide +kernel
set_option maxRecDepth 20000 in
theorem dX8_chance_244 : decode cX8_chance 244 = .ok (.iload 10, 2) := by decide +kernel
set_option maxRecDepth 20000 in
theorem dX8_chance_246 : decode cX8_chance 246 = .ok (.ishl, 1) := by decide +kernel
set_option maxRecDepth 20000 in
theorem dX8_chance_247 : decode cX8_chance 247 = .ok (.ior, 1) := by decide +kernel
set_option maxRecDepth 20000 in
theorem dX8_chance_248 : decode cX8_chance 248 = .ok (.imul, 1) := by decide +kernel
set_option maxRecDepth 20000 in
theorem dX8_chance_249 : decode cX8_chance 249 = .ok (.aload_n 0, 1) := by decide +kernel
set_option maxRecDepth 20000 in
theorem dX8_chance_250 : decode cX8_chance 250 = .ok (.iload 10, 2) := by decide +kernel
set_option maxRecDepth 20000 in
theorem dX8_chance_252 : decode cX8_chance 252 = .ok (.iload 11, 2) := by decide +kernel
set_option maxRecDepth 20000 in
theorem dX8_chance_254 : decode cX8_chance 254 = .ok (.iload 8, 2) := by decide +kernel
set_option maxRecDepth 20000 in
theorem dX8_chance_256 : decode cX8_chance 256 = .ok (.invokevirtual 120, 3) := by decide +kernel
set_option maxRecDepth 20000 in
theorem dX8_chance_259 : decode cX8_chance 259 = .ok (.iadd, 1) := by decide +kernel
set_option maxRecDepth 20000 in
theorem dX8_chance_260 : decode cX8_chance 260 = .ok (.dup2, 1) := by decide +kernel
set_option maxRecDepth 20000 in
theorem dX8_chance_261 : decode cX8_chance 261 = .ok (.iaload, 1) := by decide +kernel
set_option maxRecDepth 20000 in
theorem dX8_chance_262 : decode cX8_chance 262 = .ok (.iload 9, 2) := by decide +kernel
set_option maxRecDepth 20000 in
theorem dX8_chance_264 : decode cX8_chance 264 = .ok (.iadd, 1) := by decide +kernel
set_option maxRecDepth 20000 in
theorem dX8_chance_265 : decode cX8_chance 265 = .ok (.iastore, 1) := by decide +kernel
set_option maxRecDepth 20000 in
theorem dX8_chance_266 : decode cX8_chance 266 = .ok (.iload 4, 2) := by decide +kernel
set_option maxRecDepth 20000 in
theorem dX8_chance_268 : decode cX8_chance 268 = .ok (.iload 10, 2) := by decide +kernel
set_option maxRecDepth 20000 in
theorem dX8_chance_270 : decode cX8_chance 270 = .ok (.iload_n 1, 1) := by decide +kernel
set_option maxRecDepth 20000 in
theorem dX8_chance_271 : decode cX8_chance 271 = .ok (.if_icmp .ne 19, 3) := by decide +kernel
set_option maxRecDepth 20000 in
theorem dX8_chance_274 : decode cX8_chance 274 = .ok (.iload 11, 2) := by decide +kernel
set_option maxRecDepth 20000 in
theorem dX8_chance_276 : decode cX8_chance 276 = .ok (.iload_n 2, 1) := by decide +kernel
set_option maxRecDepth 20000 in
theorem dX8_chance_277 : decode cX8_chance 277 = .ok (.iconst 1, 1) := by decide +kernel
set_option maxRecDepth 20000 in
theorem dX8_chance_278 : decode cX8_chance 278 = .ok (.iadd, 1) := by decide +kernel
set_option maxRecDepth 20000 in
theorem dX8_chance_279 : decode cX8_chance 279 = .ok (.if_icmp .ne 11, 3) := by decide +kernel
set_option maxRecDepth 20000 in
theorem dX8_chance_282 : decode cX8_chance 282 = .ok (.iload 9, 2) := by decide +kernel
set_option maxRecDepth 20000 in
theorem dX8_chance_284 : decode cX8_chance 284 = .ok (.iload 6, 2) := by decide +kernel
set_option maxRecDepth 20000 in
theorem dX8_chance_286 : decode cX8_chance 286 = .ok (.imul, 1) := by decide +kernel
set_option maxRecDepth 20000 in
theorem dX8_chance_287 : decode cX8_chance 287 = .ok (.goto 4, 3) := by decide +kernel
set_option maxRecDepth 20000 in
theorem dX8_chance_290 : decode cX8_chance 290 = .ok (.iconst 0, 1) := by decide +kernel
set_option maxRecDepth 20000 in
theorem dX8_chance_291 : decode cX8_chance 291 = .ok (.iadd, 1) := by decide +kernel
set_option maxRecDepth 20000 in
theorem dX8_chance_292 : decode cX8_chance 292 = .ok (.istore 4, 2) := by decide +kernel
set_option maxRecDepth 20000 in
theorem dX8_chance_294 : decode cX8_chance 294 = .ok (.iinc 10 1, 3) := by decide +kernel
set_option maxRecDepth 20000 in
theorem dX8_chance_297 : decode cX8_chance 297 = .ok (.goto (-97), 3) := by decide +kernel
set_option maxRecDepth 20000 in
theorem dX8_chance_300 : decode cX8_chance 300 = .ok (.iinc 8 1, 3) := by decide +kernel
set_option maxRecDepth 20000 in
theorem dX8_chance_303 : decode cX8_chance 303 = .ok (.goto (-131), 3) := by decide +kernel
set_option maxRecDepth 20000 in
theorem dX8_chance_306 : decode cX8_chance 306 = .ok (.iinc 5 1, 3) := by decide +kernel
set_option maxRecDepth 20000 in
theorem dX8_chance_309 : decode cX8_chance 309 = .ok (.goto (-207), 3) := by decide +kernel
set_option maxRecDepth 20000 in
theorem dX8_chance_312 : decode cX8_chance 312 = .ok (.iload 4, 2) := by decide +kernel
set_option maxRecDepth 20000 in
theorem dX8_chance_314 : decode cX8_chance 314 = .ok (.ireturn, 1) := by decide +kernel
def f_X8_chance_200 (N : Nat) (c_askers : Int32) (c_places : Int32) (c_seats : Nat → Int32) (c_wish : Nat → Int32) (k172 : Int32 → (Nat → Int32) → (Nat → Int32) → Int32 → Int32 → Int32 → Int32 → Int32 → Int32 → Int32 → Option (Int32 × Int32 × (Nat → Int32) × (Nat → Int32))) : Nat → Int32 → (Nat → Int32) → (Nat → Int32) → Int32 → Int32 → Int32 → Int32 → Int32 → Int32 → Int32 → Int32 → Int32 → Option (Int32 × Int32 × (Nat → Int32) × (Nat → Int32))
  | 0, _, _, _, _, _, _, _, _, _, _, _, _ => none
  | n + 1, c_full, c_ways, c_weight, v1, v2, v3, v4, v5, v6, v8, v9, v10 =>
    (if c_askers ≤ v10 then
      k172 c_full c_ways c_weight v1 v2 v3 v4 v5 v6 (v8 + 1)
    else
      (if v9 ≤ 0 then
        k172 c_full c_ways c_weight v1 v2 v3 v4 v5 v6 (v8 + 1)
      else
        (if ((v5 >>> (v10 &&& 31)) &&& (1 : Int32)) = 0 then
          (f_X8_picks N c_places c_seats c_weight c_wish v10 v8).bind fun r4 =>
          (f_X8_takes N c_places c_seats c_weight c_wish v10 r4 v8).bind fun r6 =>
          (rdI 1048576 c_ways ((4096 * (v5 ||| ((1 : Int32) <<< (v10 &&& 31)))) + r6)).bind fun t8 =>
          (wrI 1048576 c_ways ((4096 * (v5 ||| ((1 : Int32) <<< (v10 &&& 31)))) + r6) (t8 + v9)).bind fun t9 =>
          (if v10 = v1 then
            (if r4 = (v2 + 1) then
              f_X8_chance_200 N c_askers c_places c_seats c_wish k172 n c_full t9 c_weight v1 v2 v3 (v4 + (v9 * v6)) v5 v6 v8 v9 (v10 + 1)
            else
              f_X8_chance_200 N c_askers c_places c_seats c_wish k172 n c_full t9 c_weight v1 v2 v3 (v4 + 0) v5 v6 v8 v9 (v10 + 1))
          else
            f_X8_chance_200 N c_askers c_places c_seats c_wish k172 n c_full t9 c_weight v1 v2 v3 (v4 + 0) v5 v6 v8 v9 (v10 + 1))
        else
          f_X8_chance_200 N c_askers c_places c_seats c_wish k172 n c_full c_ways c_weight v1 v2 v3 v4 v5 v6 v8 v9 (v10 + 1))))
set_option maxHeartbeats 4000000 in
set_option maxRecDepth 100000 in
theorem g_X8_chance_200 {κ : KC} {ω : KW} {A : Nat → Prop} {ad : Nat → Nat} {u_above : Int64} {u_below : Int64} {u_firsts : Int32} {u_freed : Int32} {u_whole : Int64} {N : Nat} {c_askers : Int32} {c_places : Int32} {c_seats : Nat → Int32} {c_wish : Nat → Int32}  {k172 : Int32 → (Nat → Int32) → (Nat → Int32) → Int32 → Int32 → Int32 → Int32 → Int32 → Int32 → Int32 → Option (Int32 × Int32 × (Nat → Int32) × (Nat → Int32))} {res : Int32 × Int32 × (Nat → Int32) × (Nat → Int32)} (hk172 : ∀ {c_full : Int32} {c_ways : Nat → Int32} {c_weight : Nat → Int32} {v1 : Int32} {v2 : Int32} {v3 : Int32} {v4 : Int32} {v5 : Int32} {v6 : Int32} {v8 : Int32}, k172 c_full c_ways c_weight v1 v2 v3 v4 v5 v6 v8 = some res → GG mu_X8_chance κ ω A (QR κ ω A ad (some (.int res.1)) (w_X8_chance c_askers c_places res.2.1 c_seats res.2.2.1 res.2.2.2 c_wish u_above u_below u_firsts u_freed u_whole)) ad 0 0 172 (w_X8_chance c_askers c_places c_full c_seats c_ways c_weight c_wish u_above u_below u_firsts u_freed u_whole) [some (.ref 0), some (.int v1), some (.int v2), some (.int v3), some (.int v4), some (.int v5), some (.int v6), none, some (.int v8), none, none, none] []) : ∀ (n : Nat) {c_full : Int32} {c_ways : Nat → Int32} {c_weight : Nat → Int32} {v1 : Int32} {v2 : Int32} {v3 : Int32} {v4 : Int32} {v5 : Int32} {v6 : Int32} {v8 : Int32} {v9 : Int32} {v10 : Int32}, f_X8_chance_200 N c_askers c_places c_seats c_wish k172 n c_full c_ways c_weight v1 v2 v3 v4 v5 v6 v8 v9 v10 = some res → GG mu_X8_chance κ ω A (QR κ ω A ad (some (.int res.1)) (w_X8_chance c_askers c_places res.2.1 c_seats res.2.2.1 res.2.2.2 c_wish u_above u_below u_firsts u_freed u_whole)) ad 0 0 200 (w_X8_chance c_askers c_places c_full c_seats c_ways c_weight c_wish u_above u_below u_firsts u_freed u_whole) [some (.ref 0), some (.int v1), some (.int v2), some (.int v3), some (.int v4), some (.int v5), some (.int v6), none, some (.int v8), some (.int v9), some (.int v10), none] [] := by
  intro n
  induction n with
  | zero => intro c_full c_ways c_weight v1 v2 v3 v4 v5 v6 v8 v9 v10 hf; exact ob_0 hf
  | succ n ih =>
    intro c_full c_ways c_weight v1 v2 v3 v4 v5 v6 v8 v9 v10 hf
    refine G_iload dX8_chance_200 rfl ?_
    refine G_aload_n dX8_chance_202 rfl rfl ?_
    refine G_get (v := .int c_askers) F_X8_89 dX8_chance_203 rfl rfl ?_
    refine G_icmp_ge 300 dX8_chance_206 (by decide) (fun h1 => ?_) (fun h1 => ?_)
    · replace hf := ob_t h1 hf
      refine G_iinc 1 dX8_chance_300 (by decide) rfl (ltb rfl) ?_
      change GG _ _ _ _ _ _ _ _ _ _ [some (.ref 0), some (.int v1), some (.int v2), some (.int v3), some (.int v4), some (.int v5), some (.int v6), none, some (.int (v8 + 1)), some (.int v9), some (.int v10), none] _
      refine G_goto 172 dX8_chance_303 (by decide) ?_
      refine GG.sb (lv2 := [some (.ref 0), some (.int v1), some (.int v2), some (.int v3), some (.int v4), some (.int v5), some (.int v6), none, some (.int (v8 + 1)), none, none, none]) ?_ (lvS_v rfl (lvS_v rfl (lvS_v rfl (lvS_v rfl (lvS_v rfl (lvS_v rfl (lvS_v rfl (lvS_n (lvS_v rfl (lvS_n (lvS_n (lvS_n (lvS_e)))))))))))))
      exact hk172 hf
    · replace hf := ob_f h1 hf
      refine G_iload dX8_chance_209 rfl ?_
      refine G_if_le 300 dX8_chance_211 (by decide) (fun h2 => ?_) (fun h2 => ?_)
      · replace hf := ob_t h2 hf
        refine G_iinc 1 dX8_chance_300 (by decide) rfl (ltb rfl) ?_
        change GG _ _ _ _ _ _ _ _ _ _ [some (.ref 0), some (.int v1), some (.int v2), some (.int v3), some (.int v4), some (.int v5), some (.int v6), none, some (.int (v8 + 1)), some (.int v9), some (.int v10), none] _
        refine G_goto 172 dX8_chance_303 (by decide) ?_
        refine GG.sb (lv2 := [some (.ref 0), some (.int v1), some (.int v2), some (.int v3), some (.int v4), some (.int v5), some (.int v6), none, some (.int (v8 + 1)), none, none, none]) ?_ (lvS_v rfl (lvS_v rfl (lvS_v rfl (lvS_v rfl (lvS_v rfl (lvS_v rfl (lvS_v rfl (lvS_n (lvS_v rfl (lvS_n (lvS_n (lvS_n (lvS_e)))))))))))))
        exact hk172 hf
      · replace hf := ob_f h2 hf
        refine G_iload dX8_chance_214 rfl ?_
        refine G_iload dX8_chance_216 rfl ?_
        refine G_ishr dX8_chance_218 ?_
        refine G_iconst 1 dX8_chance_219 (by decide) ?_
        refine G_iand dX8_chance_220 ?_
        refine G_if_ne 294 dX8_chance_221 (by decide) (fun h3 => ?_) (fun h3 => ?_)
        · replace hf := ob_f h3 hf
          refine G_iinc 1 dX8_chance_294 (by decide) rfl (ltb rfl) ?_
          change GG _ _ _ _ _ _ _ _ _ _ [some (.ref 0), some (.int v1), some (.int v2), some (.int v3), some (.int v4), some (.int v5), some (.int v6), none, some (.int v8), some (.int v9), some (.int (v10 + 1)), none] _
          refine G_goto 200 dX8_chance_297 (by decide) ?_
          exact ih hf
        · replace hf := ob_t h3 hf
          refine G_aload_n dX8_chance_224 rfl rfl ?_
          refine G_iload dX8_chance_225 rfl ?_
          refine G_iload dX8_chance_227 rfl ?_
          obtain ⟨r4, hc5, hf⟩ := ob hf
          refine G_callV (μ2 := mu_X8_picks) (As := [.int v10, .int v8]) (w2 := (w_X8_chance c_askers c_places c_full c_seats c_ways c_weight c_wish u_above u_below u_firsts u_freed u_whole)) (wc := (w_X8_picks c_places c_seats c_weight c_wish c_askers u_above u_below c_full u_firsts u_freed u_whole)) (wc2 := (w_X8_picks c_places c_seats c_weight c_wish c_askers u_above u_below c_full u_firsts u_freed u_whole)) (rest := []) (rv := [.int r4]) [0, 1, 3, 4] [1000, 1001, 1002, 1003, 1004, 1005, 1006, 1007, 1008, 1009, 1010, 1011, 1012, 1013, 2, 1014, 1015, 1016] [2] [1, 2, 0, 3, 4] (c_X8_picks hc5) cw_X8_picks m_X8_220 dX8_chance_229 rfl ⟨leb rfl, leb rfl⟩ ⟨rfl, rfl⟩ rfl ⟨_, rfl, rfl⟩ (Fit.mk rfl rfl rfl) rfl (leb rfl) (ROsub.nil rfl rfl) rfl ?_
          change GG _ _ _ _ _ _ _ _ _ (w_X8_chance c_askers c_places c_full c_seats c_ways c_weight c_wish u_above u_below u_firsts u_freed u_whole) [some (.ref 0), some (.int v1), some (.int v2), some (.int v3), some (.int v4), some (.int v5), some (.int v6), none, some (.int v8), some (.int v9), some (.int v10), none] [.int r4]
          refine G_istore dX8_chance_232 (ltb rfl) ?_
          change GG _ _ _ _ _ _ _ _ _ _ [some (.ref 0), some (.int v1), some (.int v2), some (.int v3), some (.int v4), some (.int v5), some (.int v6), none, some (.int v8), some (.int v9), some (.int v10), some (.int r4)] _
          refine G_aload_n dX8_chance_234 rfl rfl ?_
          refine G_get (v := .ref 2) F_X8_66 dX8_chance_235 rfl rfl ?_
          refine G_sipush 4096 dX8_chance_238 (by decide) ?_
          refine G_iload dX8_chance_241 rfl ?_
          refine G_iconst 1 dX8_chance_243 (by decide) ?_
          refine G_iload dX8_chance_244 rfl ?_
          refine G_ishl dX8_chance_246 ?_
          refine G_ior dX8_chance_247 ?_
          refine G_imul dX8_chance_248 ?_
          refine G_aload_n dX8_chance_249 rfl rfl ?_
          refine G_iload dX8_chance_250 rfl ?_
          refine G_iload dX8_chance_252 rfl ?_
          refine G_iload dX8_chance_254 rfl ?_
          obtain ⟨r6, hc7, hf⟩ := ob hf
          refine G_callV (μ2 := mu_X8_takes) (As := [.int v10, .int r4, .int v8]) (w2 := (w_X8_chance c_askers c_places c_full c_seats c_ways c_weight c_wish u_above u_below u_firsts u_freed u_whole)) (wc := (w_X8_takes c_places c_seats c_weight c_wish c_askers u_above u_below c_full u_firsts u_freed u_whole)) (wc2 := (w_X8_takes c_places c_seats c_weight c_wish c_askers u_above u_below c_full u_firsts u_freed u_whole)) (rest := [.int (4096 * (v5 ||| ((1 : Int32) <<< (v10 &&& 31)))), .ref 2]) (rv := [.int r6]) [0, 1, 3, 4] [1000, 1001, 1002, 1003, 1004, 1005, 1006, 1007, 1008, 1009, 1010, 1011, 1012, 1013, 2, 1014, 1015, 1016] [2] [1, 2, 0, 3, 4] (c_X8_takes hc7) cw_X8_takes m_X8_120 dX8_chance_256 rfl ⟨leb rfl, leb rfl⟩ ⟨rfl, rfl⟩ rfl ⟨_, rfl, rfl⟩ (Fit.mk rfl rfl rfl) rfl (leb rfl) (ROsub.nil rfl rfl) rfl ?_
          change GG _ _ _ _ _ _ _ _ _ (w_X8_chance c_askers c_places c_full c_seats c_ways c_weight c_wish u_above u_below u_firsts u_freed u_whole) [some (.ref 0), some (.int v1), some (.int v2), some (.int v3), some (.int v4), some (.int v5), some (.int v6), none, some (.int v8), some (.int v9), some (.int v10), some (.int r4)] [.int r6, .int (4096 * (v5 ||| ((1 : Int32) <<< (v10 &&& 31)))), .ref 2]
          refine G_iadd dX8_chance_259 ?_
          refine G_dup2 dX8_chance_260 rfl rfl ?_
          obtain ⟨t8, ht8, hf⟩ := ob hf
          refine G_iald dX8_chance_261 rfl ht8 ?_
          refine G_iload dX8_chance_262 rfl ?_
          refine G_iadd dX8_chance_264 ?_
          obtain ⟨t9, ht9, hf⟩ := ob hf
          refine G_iast (w2 := (w_X8_chance c_askers c_places c_full c_seats t9 c_weight c_wish u_above u_below u_firsts u_freed u_whole)) dX8_chance_265 rfl ht9 rfl ?_
          refine G_iload dX8_chance_266 rfl ?_
          refine G_iload dX8_chance_268 rfl ?_
          refine G_iload_n dX8_chance_270 rfl rfl ?_
          refine G_icmp_ne 290 dX8_chance_271 (by decide) (fun h10 => ?_) (fun h10 => ?_)
          · replace hf := ob_f h10 hf
            refine G_iconst 0 dX8_chance_290 (by decide) ?_
            refine G_iadd dX8_chance_291 ?_
            refine G_istore dX8_chance_292 (ltb rfl) ?_
            change GG _ _ _ _ _ _ _ _ _ _ [some (.ref 0), some (.int v1), some (.int v2), some (.int v3), some (.int (v4 + 0)), some (.int v5), some (.int v6), none, some (.int v8), some (.int v9), some (.int v10), some (.int r4)] _
            refine G_iinc 1 dX8_chance_294 (by decide) rfl (ltb rfl) ?_
            change GG _ _ _ _ _ _ _ _ _ _ [some (.ref 0), some (.int v1), some (.int v2), some (.int v3), some (.int (v4 + 0)), some (.int v5), some (.int v6), none, some (.int v8), some (.int v9), some (.int (v10 + 1)), some (.int r4)] _
            refine G_goto 200 dX8_chance_297 (by decide) ?_
            refine GG.sb (lv2 := [some (.ref 0), some (.int v1), some (.int v2), some (.int v3), some (.int (v4 + 0)), some (.int v5), some (.int v6), none, some (.int v8), some (.int v9), some (.int (v10 + 1)), none]) ?_ (lvS_v rfl (lvS_v rfl (lvS_v rfl (lvS_v rfl (lvS_v rfl (lvS_v rfl (lvS_v rfl (lvS_n (lvS_v rfl (lvS_v rfl (lvS_v rfl (lvS_n (lvS_e)))))))))))))
            exact ih hf
          · replace hf := ob_t h10 hf
            refine G_iload dX8_chance_274 rfl ?_
            refine G_iload_n dX8_chance_276 rfl rfl ?_
            refine G_iconst 1 dX8_chance_277 (by decide) ?_
            refine G_iadd dX8_chance_278 ?_
            refine G_icmp_ne 290 dX8_chance_279 (by decide) (fun h11 => ?_) (fun h11 => ?_)
            · replace hf := ob_f h11 hf
              refine G_iconst 0 dX8_chance_290 (by decide) ?_
              refine G_iadd dX8_chance_291 ?_
              refine G_istore dX8_chance_292 (ltb rfl) ?_
              change GG _ _ _ _ _ _ _ _ _ _ [some (.ref 0), some (.int v1), some (.int v2), some (.int v3), some (.int (v4 + 0)), some (.int v5), some (.int v6), none, some (.int v8), some (.int v9), some (.int v10), some (.int r4)] _
              refine G_iinc 1 dX8_chance_294 (by decide) rfl (ltb rfl) ?_
              change GG _ _ _ _ _ _ _ _ _ _ [some (.ref 0), some (.int v1), some (.int v2), some (.int v3), some (.int (v4 + 0)), some (.int v5), some (.int v6), none, some (.int v8), some (.int v9), some (.int (v10 + 1)), some (.int r4)] _
              refine G_goto 200 dX8_chance_297 (by decide) ?_
              refine GG.sb (lv2 := [some (.ref 0), some (.int v1), some (.int v2), some (.int v3), some (.int (v4 + 0)), some (.int v5), some (.int v6), none, some (.int v8), some (.int v9), some (.int (v10 + 1)), none]) ?_ (lvS_v rfl (lvS_v rfl (lvS_v rfl (lvS_v rfl (lvS_v rfl (lvS_v rfl (lvS_v rfl (lvS_n (lvS_v rfl (lvS_v rfl (lvS_v rfl (lvS_n (lvS_e)))))))))))))
              exact ih hf
            · replace hf := ob_t h11 hf
              refine G_iload dX8_chance_282 rfl ?_
              refine G_iload dX8_chance_284 rfl ?_
              refine G_imul dX8_chance_286 ?_
              refine G_goto 291 dX8_chance_287 (by decide) ?_
              refine G_iadd dX8_chance_291 ?_
              refine G_istore dX8_chance_292 (ltb rfl) ?_
              change GG _ _ _ _ _ _ _ _ _ _ [some (.ref 0), some (.int v1), some (.int v2), some (.int v3), some (.int (v4 + (v9 * v6))), some (.int v5), some (.int v6), none, some (.int v8), some (.int v9), some (.int v10), some (.int r4)] _
              refine G_iinc 1 dX8_chance_294 (by decide) rfl (ltb rfl) ?_
              change GG _ _ _ _ _ _ _ _ _ _ [some (.ref 0), some (.int v1), some (.int v2), some (.int v3), some (.int (v4 + (v9 * v6))), some (.int v5), some (.int v6), none, some (.int v8), some (.int v9), some (.int (v10 + 1)), some (.int r4)] _
              refine G_goto 200 dX8_chance_297 (by decide) ?_
              refine GG.sb (lv2 := [some (.ref 0), some (.int v1), some (.int v2), some (.int v3), some (.int (v4 + (v9 * v6))), some (.int v5), some (.int v6), none, some (.int v8), some (.int v9), some (.int (v10 + 1)), none]) ?_ (lvS_v rfl (lvS_v rfl (lvS_v rfl (lvS_v rfl (lvS_v rfl (lvS_v rfl (lvS_v rfl (lvS_n (lvS_v rfl (lvS_v rfl (lvS_v rfl (lvS_n (lvS_e)))))))))))))
              exact ih hf
def f_X8_chance_172 (N : Nat) (c_askers : Int32) (c_places : Int32) (c_seats : Nat → Int32) (c_wish : Nat → Int32) (k102 : Int32 → (Nat → Int32) → (Nat → Int32) → Int32 → Int32 → Int32 → Int32 → Int32 → Option (Int32 × Int32 × (Nat → Int32) × (Nat → Int32))) : Nat → Int32 → (Nat → Int32) → (Nat → Int32) → Int32 → Int32 → Int32 → Int32 → Int32 → Int32 → Int32 → Option (Int32 × Int32 × (Nat → Int32) × (Nat → Int32))
  | 0, _, _, _, _, _, _, _, _, _, _ => none
  | n + 1, c_full, c_ways, c_weight, v1, v2, v3, v4, v5, v6, v8 =>
    (if c_full < v8 then
      k102 c_full c_ways c_weight v1 v2 v3 v4 (v5 + 1)
    else
      (rdI 1048576 c_ways ((4096 * v5) + v8)).bind fun t2 =>
      f_X8_chance_200 N c_askers c_places c_seats c_wish (f_X8_chance_172 N c_askers c_places c_seats c_wish k102 n) N c_full c_ways c_weight v1 v2 v3 v4 v5 v6 v8 t2 0)
set_option maxHeartbeats 4000000 in
set_option maxRecDepth 100000 in
theorem g_X8_chance_172 {κ : KC} {ω : KW} {A : Nat → Prop} {ad : Nat → Nat} {u_above : Int64} {u_below : Int64} {u_firsts : Int32} {u_freed : Int32} {u_whole : Int64} {N : Nat} {c_askers : Int32} {c_places : Int32} {c_seats : Nat → Int32} {c_wish : Nat → Int32}  {k102 : Int32 → (Nat → Int32) → (Nat → Int32) → Int32 → Int32 → Int32 → Int32 → Int32 → Option (Int32 × Int32 × (Nat → Int32) × (Nat → Int32))} {res : Int32 × Int32 × (Nat → Int32) × (Nat → Int32)} (hk102 : ∀ {c_full : Int32} {c_ways : Nat → Int32} {c_weight : Nat → Int32} {v1 : Int32} {v2 : Int32} {v3 : Int32} {v4 : Int32} {v5 : Int32}, k102 c_full c_ways c_weight v1 v2 v3 v4 v5 = some res → GG mu_X8_chance κ ω A (QR κ ω A ad (some (.int res.1)) (w_X8_chance c_askers c_places res.2.1 c_seats res.2.2.1 res.2.2.2 c_wish u_above u_below u_firsts u_freed u_whole)) ad 0 0 102 (w_X8_chance c_askers c_places c_full c_seats c_ways c_weight c_wish u_above u_below u_firsts u_freed u_whole) [some (.ref 0), some (.int v1), some (.int v2), some (.int v3), some (.int v4), some (.int v5), none, none, none, none, none, none] []) : ∀ (n : Nat) {c_full : Int32} {c_ways : Nat → Int32} {c_weight : Nat → Int32} {v1 : Int32} {v2 : Int32} {v3 : Int32} {v4 : Int32} {v5 : Int32} {v6 : Int32} {v8 : Int32}, f_X8_chance_172 N c_askers c_places c_seats c_wish k102 n c_full c_ways c_weight v1 v2 v3 v4 v5 v6 v8 = some res → GG mu_X8_chance κ ω A (QR κ ω A ad (some (.int res.1)) (w_X8_chance c_askers c_places res.2.1 c_seats res.2.2.1 res.2.2.2 c_wish u_above u_below u_firsts u_freed u_whole)) ad 0 0 172 (w_X8_chance c_askers c_places c_full c_seats c_ways c_weight c_wish u_above u_below u_firsts u_freed u_whole) [some (.ref 0), some (.int v1), some (.int v2), some (.int v3), some (.int v4), some (.int v5), some (.int v6), none, some (.int v8), none, none, none] [] := by
  intro n
  induction n with
  | zero => intro c_full c_ways c_weight v1 v2 v3 v4 v5 v6 v8 hf; exact ob_0 hf
  | succ n ih =>
    intro c_full c_ways c_weight v1 v2 v3 v4 v5 v6 v8 hf
    refine G_iload dX8_chance_172 rfl ?_
    refine G_aload_n dX8_chance_174 rfl rfl ?_
    refine G_get (v := .int c_full) F_X8_114 dX8_chance_175 rfl rfl ?_
    refine G_icmp_gt 306 dX8_chance_178 (by decide) (fun h1 => ?_) (fun h1 => ?_)
    · replace hf := ob_t h1 hf
      refine G_iinc 1 dX8_chance_306 (by decide) rfl (ltb rfl) ?_
      change GG _ _ _ _ _ _ _ _ _ _ [some (.ref 0), some (.int v1), some (.int v2), some (.int v3), some (.int v4), some (.int (v5 + 1)), some (.int v6), none, some (.int v8), none, none, none] _
      refine G_goto 102 dX8_chance_309 (by decide) ?_
      refine GG.sb (lv2 := [some (.ref 0), some (.int v1), some (.int v2), some (.int v3), some (.int v4), some (.int (v5 + 1)), none, none, none, none, none, none]) ?_ (lvS_v rfl (lvS_v rfl (lvS_v rfl (lvS_v rfl (lvS_v rfl (lvS_v rfl (lvS_n (lvS_n (lvS_n (lvS_n (lvS_n (lvS_n (lvS_e)))))))))))))
      exact hk102 hf
    · replace hf := ob_f h1 hf
      refine G_aload_n dX8_chance_181 rfl rfl ?_
      refine G_get (v := .ref 2) F_X8_66 dX8_chance_182 rfl rfl ?_
      refine G_sipush 4096 dX8_chance_185 (by decide) ?_
      refine G_iload dX8_chance_188 rfl ?_
      refine G_imul dX8_chance_190 ?_
      refine G_iload dX8_chance_191 rfl ?_
      refine G_iadd dX8_chance_193 ?_
      obtain ⟨t2, ht2, hf⟩ := ob hf
      refine G_iald dX8_chance_194 rfl ht2 ?_
      refine G_istore dX8_chance_195 (ltb rfl) ?_
      change GG _ _ _ _ _ _ _ _ _ _ [some (.ref 0), some (.int v1), some (.int v2), some (.int v3), some (.int v4), some (.int v5), some (.int v6), none, some (.int v8), some (.int t2), none, none] _
      refine G_iconst 0 dX8_chance_197 (by decide) ?_
      refine G_istore dX8_chance_198 (ltb rfl) ?_
      change GG _ _ _ _ _ _ _ _ _ _ [some (.ref 0), some (.int v1), some (.int v2), some (.int v3), some (.int v4), some (.int v5), some (.int v6), none, some (.int v8), some (.int t2), some (.int 0), none] _
      exact g_X8_chance_200 ih N hf
def f_X8_chance_149 (N : Nat) (c_askers : Int32) (c_places : Int32) (c_seats : Nat → Int32) (c_wish : Nat → Int32) (k102 : Int32 → (Nat → Int32) → (Nat → Int32) → Int32 → Int32 → Int32 → Int32 → Int32 → Option (Int32 × Int32 × (Nat → Int32) × (Nat → Int32))) : Nat → Int32 → (Nat → Int32) → (Nat → Int32) → Int32 → Int32 → Int32 → Int32 → Int32 → Int32 → Int32 → Int32 → Option (Int32 × Int32 × (Nat → Int32) × (Nat → Int32))
  | 0, _, _, _, _, _, _, _, _, _, _, _ => none
  | n + 1, c_full, c_ways, c_weight, v1, v2, v3, v4, v5, v6, v7, v8 =>
    (if v7 ≤ v8 then
      f_X8_chance_172 N c_askers c_places c_seats c_wish k102 N c_full c_ways c_weight v1 v2 v3 v4 v5 v6 0
    else
      f_X8_chance_149 N c_askers c_places c_seats c_wish k102 n c_full c_ways c_weight v1 v2 v3 v4 v5 (v6 * v8) v7 (v8 + 1))
set_option maxHeartbeats 4000000 in
set_option maxRecDepth 100000 in
theorem g_X8_chance_149 {κ : KC} {ω : KW} {A : Nat → Prop} {ad : Nat → Nat} {u_above : Int64} {u_below : Int64} {u_firsts : Int32} {u_freed : Int32} {u_whole : Int64} {N : Nat} {c_askers : Int32} {c_places : Int32} {c_seats : Nat → Int32} {c_wish : Nat → Int32}  {k102 : Int32 → (Nat → Int32) → (Nat → Int32) → Int32 → Int32 → Int32 → Int32 → Int32 → Option (Int32 × Int32 × (Nat → Int32) × (Nat → Int32))} {res : Int32 × Int32 × (Nat → Int32) × (Nat → Int32)} (hk102 : ∀ {c_full : Int32} {c_ways : Nat → Int32} {c_weight : Nat → Int32} {v1 : Int32} {v2 : Int32} {v3 : Int32} {v4 : Int32} {v5 : Int32}, k102 c_full c_ways c_weight v1 v2 v3 v4 v5 = some res → GG mu_X8_chance κ ω A (QR κ ω A ad (some (.int res.1)) (w_X8_chance c_askers c_places res.2.1 c_seats res.2.2.1 res.2.2.2 c_wish u_above u_below u_firsts u_freed u_whole)) ad 0 0 102 (w_X8_chance c_askers c_places c_full c_seats c_ways c_weight c_wish u_above u_below u_firsts u_freed u_whole) [some (.ref 0), some (.int v1), some (.int v2), some (.int v3), some (.int v4), some (.int v5), none, none, none, none, none, none] []) : ∀ (n : Nat) {c_full : Int32} {c_ways : Nat → Int32} {c_weight : Nat → Int32} {v1 : Int32} {v2 : Int32} {v3 : Int32} {v4 : Int32} {v5 : Int32} {v6 : Int32} {v7 : Int32} {v8 : Int32}, f_X8_chance_149 N c_askers c_places c_seats c_wish k102 n c_full c_ways c_weight v1 v2 v3 v4 v5 v6 v7 v8 = some res → GG mu_X8_chance κ ω A (QR κ ω A ad (some (.int res.1)) (w_X8_chance c_askers c_places res.2.1 c_seats res.2.2.1 res.2.2.2 c_wish u_above u_below u_firsts u_freed u_whole)) ad 0 0 149 (w_X8_chance c_askers c_places c_full c_seats c_ways c_weight c_wish u_above u_below u_firsts u_freed u_whole) [some (.ref 0), some (.int v1), some (.int v2), some (.int v3), some (.int v4), some (.int v5), some (.int v6), some (.int v7), some (.int v8), none, none, none] [] := by
  intro n
  induction n with
  | zero => intro c_full c_ways c_weight v1 v2 v3 v4 v5 v6 v7 v8 hf; exact ob_0 hf
  | succ n ih =>
    intro c_full c_ways c_weight v1 v2 v3 v4 v5 v6 v7 v8 hf
    refine G_iload dX8_chance_149 rfl ?_
    refine G_iload dX8_chance_151 rfl ?_
    refine G_icmp_ge 169 dX8_chance_153 (by decide) (fun h1 => ?_) (fun h1 => ?_)
    · replace hf := ob_t h1 hf
      refine G_iconst 0 dX8_chance_169 (by decide) ?_
      refine G_istore dX8_chance_170 (ltb rfl) ?_
      change GG _ _ _ _ _ _ _ _ _ _ [some (.ref 0), some (.int v1), some (.int v2), some (.int v3), some (.int v4), some (.int v5), some (.int v6), some (.int v7), some (.int 0), none, none, none] _
      refine GG.sb (lv2 := [some (.ref 0), some (.int v1), some (.int v2), some (.int v3), some (.int v4), some (.int v5), some (.int v6), none, some (.int 0), none, none, none]) ?_ (lvS_v rfl (lvS_v rfl (lvS_v rfl (lvS_v rfl (lvS_v rfl (lvS_v rfl (lvS_v rfl (lvS_n (lvS_v rfl (lvS_n (lvS_n (lvS_n (lvS_e)))))))))))))
      exact g_X8_chance_172 hk102 N hf
    · replace hf := ob_f h1 hf
      refine G_iload dX8_chance_156 rfl ?_
      refine G_iload dX8_chance_158 rfl ?_
      refine G_imul dX8_chance_160 ?_
      refine G_istore dX8_chance_161 (ltb rfl) ?_
      change GG _ _ _ _ _ _ _ _ _ _ [some (.ref 0), some (.int v1), some (.int v2), some (.int v3), some (.int v4), some (.int v5), some (.int (v6 * v8)), some (.int v7), some (.int v8), none, none, none] _
      refine G_iinc 1 dX8_chance_163 (by decide) rfl (ltb rfl) ?_
      change GG _ _ _ _ _ _ _ _ _ _ [some (.ref 0), some (.int v1), some (.int v2), some (.int v3), some (.int v4), some (.int v5), some (.int (v6 * v8)), some (.int v7), some (.int (v8 + 1)), none, none, none] _
      refine G_goto 149 dX8_chance_166 (by decide) ?_
      exact ih hf
def f_X8_chance_117 (N : Nat) (c_askers : Int32) (c_places : Int32) (c_seats : Nat → Int32) (c_wish : Nat → Int32) (k102 : Int32 → (Nat → Int32) → (Nat → Int32) → Int32 → Int32 → Int32 → Int32 → Int32 → Option (Int32 × Int32 × (Nat → Int32) × (Nat → Int32))) : Nat → Int32 → (Nat → Int32) → (Nat → Int32) → Int32 → Int32 → Int32 → Int32 → Int32 → Int32 → Int32 → Int32 → Option (Int32 × Int32 × (Nat → Int32) × (Nat → Int32))
  | 0, _, _, _, _, _, _, _, _, _, _, _ => none
  | n + 1, c_full, c_ways, c_weight, v1, v2, v3, v4, v5, v6, v7, v8 =>
    (if c_askers ≤ v8 then
      f_X8_chance_149 N c_askers c_places c_seats c_wish k102 N c_full c_ways c_weight v1 v2 v3 v4 v5 v6 v7 2
    else
      f_X8_chance_117 N c_askers c_places c_seats c_wish k102 n c_full c_ways c_weight v1 v2 v3 v4 v5 v6 (v7 + (1 - ((v5 >>> (v8 &&& 31)) &&& (1 : Int32)))) (v8 + 1))
set_option maxHeartbeats 4000000 in
set_option maxRecDepth 100000 in
theorem g_X8_chance_117 {κ : KC} {ω : KW} {A : Nat → Prop} {ad : Nat → Nat} {u_above : Int64} {u_below : Int64} {u_firsts : Int32} {u_freed : Int32} {u_whole : Int64} {N : Nat} {c_askers : Int32} {c_places : Int32} {c_seats : Nat → Int32} {c_wish : Nat → Int32}  {k102 : Int32 → (Nat → Int32) → (Nat → Int32) → Int32 → Int32 → Int32 → Int32 → Int32 → Option (Int32 × Int32 × (Nat → Int32) × (Nat → Int32))} {res : Int32 × Int32 × (Nat → Int32) × (Nat → Int32)} (hk102 : ∀ {c_full : Int32} {c_ways : Nat → Int32} {c_weight : Nat → Int32} {v1 : Int32} {v2 : Int32} {v3 : Int32} {v4 : Int32} {v5 : Int32}, k102 c_full c_ways c_weight v1 v2 v3 v4 v5 = some res → GG mu_X8_chance κ ω A (QR κ ω A ad (some (.int res.1)) (w_X8_chance c_askers c_places res.2.1 c_seats res.2.2.1 res.2.2.2 c_wish u_above u_below u_firsts u_freed u_whole)) ad 0 0 102 (w_X8_chance c_askers c_places c_full c_seats c_ways c_weight c_wish u_above u_below u_firsts u_freed u_whole) [some (.ref 0), some (.int v1), some (.int v2), some (.int v3), some (.int v4), some (.int v5), none, none, none, none, none, none] []) : ∀ (n : Nat) {c_full : Int32} {c_ways : Nat → Int32} {c_weight : Nat → Int32} {v1 : Int32} {v2 : Int32} {v3 : Int32} {v4 : Int32} {v5 : Int32} {v6 : Int32} {v7 : Int32} {v8 : Int32}, f_X8_chance_117 N c_askers c_places c_seats c_wish k102 n c_full c_ways c_weight v1 v2 v3 v4 v5 v6 v7 v8 = some res → GG mu_X8_chance κ ω A (QR κ ω A ad (some (.int res.1)) (w_X8_chance c_askers c_places res.2.1 c_seats res.2.2.1 res.2.2.2 c_wish u_above u_below u_firsts u_freed u_whole)) ad 0 0 117 (w_X8_chance c_askers c_places c_full c_seats c_ways c_weight c_wish u_above u_below u_firsts u_freed u_whole) [some (.ref 0), some (.int v1), some (.int v2), some (.int v3), some (.int v4), some (.int v5), some (.int v6), some (.int v7), some (.int v8), none, none, none] [] := by
  intro n
  induction n with
  | zero => intro c_full c_ways c_weight v1 v2 v3 v4 v5 v6 v7 v8 hf; exact ob_0 hf
  | succ n ih =>
    intro c_full c_ways c_weight v1 v2 v3 v4 v5 v6 v7 v8 hf
    refine G_iload dX8_chance_117 rfl ?_
    refine G_aload_n dX8_chance_119 rfl rfl ?_
    refine G_get (v := .int c_askers) F_X8_89 dX8_chance_120 rfl rfl ?_
    refine G_icmp_ge 146 dX8_chance_123 (by decide) (fun h1 => ?_) (fun h1 => ?_)
    · replace hf := ob_t h1 hf
      refine G_iconst 2 dX8_chance_146 (by decide) ?_
      refine G_istore dX8_chance_147 (ltb rfl) ?_
      change GG _ _ _ _ _ _ _ _ _ _ [some (.ref 0), some (.int v1), some (.int v2), some (.int v3), some (.int v4), some (.int v5), some (.int v6), some (.int v7), some (.int 2), none, none, none] _
      exact g_X8_chance_149 hk102 N hf
    · replace hf := ob_f h1 hf
      refine G_iload dX8_chance_126 rfl ?_
      refine G_iconst 1 dX8_chance_128 (by decide) ?_
      refine G_iload dX8_chance_129 rfl ?_
      refine G_iload dX8_chance_131 rfl ?_
      refine G_ishr dX8_chance_133 ?_
      refine G_iconst 1 dX8_chance_134 (by decide) ?_
      refine G_iand dX8_chance_135 ?_
      refine G_isub dX8_chance_136 ?_
      refine G_iadd dX8_chance_137 ?_
      refine G_istore dX8_chance_138 (ltb rfl) ?_
      change GG _ _ _ _ _ _ _ _ _ _ [some (.ref 0), some (.int v1), some (.int v2), some (.int v3), some (.int v4), some (.int v5), some (.int v6), some (.int (v7 + (1 - ((v5 >>> (v8 &&& 31)) &&& (1 : Int32))))), some (.int v8), none, none, none] _
      refine G_iinc 1 dX8_chance_140 (by decide) rfl (ltb rfl) ?_
      change GG _ _ _ _ _ _ _ _ _ _ [some (.ref 0), some (.int v1), some (.int v2), some (.int v3), some (.int v4), some (.int v5), some (.int v6), some (.int (v7 + (1 - ((v5 >>> (v8 &&& 31)) &&& (1 : Int32))))), some (.int (v8 + 1)), none, none, none] _
      refine G_goto 117 dX8_chance_143 (by decide) ?_
      exact ih hf
def f_X8_chance_102 (N : Nat) (c_askers : Int32) (c_places : Int32) (c_seats : Nat → Int32) (c_wish : Nat → Int32) : Nat → Int32 → (Nat → Int32) → (Nat → Int32) → Int32 → Int32 → Int32 → Int32 → Int32 → Option (Int32 × Int32 × (Nat → Int32) × (Nat → Int32))
  | 0, _, _, _, _, _, _, _, _ => none
  | n + 1, c_full, c_ways, c_weight, v1, v2, v3, v4, v5 =>
    (if v3 ≤ v5 then
      some (v4, c_full, c_ways, c_weight)
    else
      f_X8_chance_117 N c_askers c_places c_seats c_wish (f_X8_chance_102 N c_askers c_places c_seats c_wish n) N c_full c_ways c_weight v1 v2 v3 v4 v5 1 0 0)
set_option maxHeartbeats 4000000 in
set_option maxRecDepth 100000 in
theorem g_X8_chance_102 {κ : KC} {ω : KW} {A : Nat → Prop} {ad : Nat → Nat} {u_above : Int64} {u_below : Int64} {u_firsts : Int32} {u_freed : Int32} {u_whole : Int64} {N : Nat} {c_askers : Int32} {c_places : Int32} {c_seats : Nat → Int32} {c_wish : Nat → Int32}  {res : Int32 × Int32 × (Nat → Int32) × (Nat → Int32)} : ∀ (n : Nat) {c_full : Int32} {c_ways : Nat → Int32} {c_weight : Nat → Int32} {v1 : Int32} {v2 : Int32} {v3 : Int32} {v4 : Int32} {v5 : Int32}, f_X8_chance_102 N c_askers c_places c_seats c_wish n c_full c_ways c_weight v1 v2 v3 v4 v5 = some res → GG mu_X8_chance κ ω A (QR κ ω A ad (some (.int res.1)) (w_X8_chance c_askers c_places res.2.1 c_seats res.2.2.1 res.2.2.2 c_wish u_above u_below u_firsts u_freed u_whole)) ad 0 0 102 (w_X8_chance c_askers c_places c_full c_seats c_ways c_weight c_wish u_above u_below u_firsts u_freed u_whole) [some (.ref 0), some (.int v1), some (.int v2), some (.int v3), some (.int v4), some (.int v5), none, none, none, none, none, none] [] := by
  intro n
  induction n with
  | zero => intro c_full c_ways c_weight v1 v2 v3 v4 v5 hf; exact ob_0 hf
  | succ n ih =>
    intro c_full c_ways c_weight v1 v2 v3 v4 v5 hf
    refine G_iload dX8_chance_102 rfl ?_
    refine G_iload_n dX8_chance_104 rfl rfl ?_
    refine G_icmp_ge 312 dX8_chance_105 (by decide) (fun h1 => ?_) (fun h1 => ?_)
    · replace hf := ob_t h1 hf
      refine G_iload dX8_chance_312 rfl ?_
      obtain rfl := os hf
      exact G_ireturn dX8_chance_314 rfl
    · replace hf := ob_f h1 hf
      refine G_iconst 1 dX8_chance_108 (by decide) ?_
      refine G_istore dX8_chance_109 (ltb rfl) ?_
      change GG _ _ _ _ _ _ _ _ _ _ [some (.ref 0), some (.int v1), some (.int v2), some (.int v3), some (.int v4), some (.int v5), some (.int 1), none, none, none, none, none] _
      refine G_iconst 0 dX8_chance_111 (by decide) ?_
      refine G_istore dX8_chance_112 (ltb rfl) ?_
      change GG _ _ _ _ _ _ _ _ _ _ [some (.ref 0), some (.int v1), some (.int v2), some (.int v3), some (.int v4), some (.int v5), some (.int 1), some (.int 0), none, none, none, none] _
      refine G_iconst 0 dX8_chance_114 (by decide) ?_
      refine G_istore dX8_chance_115 (ltb rfl) ?_
      change GG _ _ _ _ _ _ _ _ _ _ [some (.ref 0), some (.int v1), some (.int v2), some (.int v3), some (.int v4), some (.int v5), some (.int 1), some (.int 0), some (.int 0), none, none, none] _
      exact g_X8_chance_117 ih N hf
def f_X8_chance_83 (N : Nat) (c_askers : Int32) (c_places : Int32) (c_seats : Nat → Int32) (c_wish : Nat → Int32) (k42 : Int32 → (Nat → Int32) → (Nat → Int32) → Int32 → Int32 → Int32 → Int32 → Int32 → Option (Int32 × Int32 × (Nat → Int32) × (Nat → Int32))) (c_full : Int32) (c_ways : Nat → Int32) (c_weight : Nat → Int32) (v1 : Int32) (v2 : Int32) (v3 : Int32) (v4 : Int32) (v5 : Int32) (s1 : Int32) (s2 : Int32) : Option (Int32 × Int32 × (Nat → Int32) × (Nat → Int32)) :=
    (wrI 1048576 c_ways s1 s2).bind fun t1 =>
    k42 c_full t1 c_weight v1 v2 v3 v4 (v5 + 1)
set_option maxHeartbeats 4000000 in
set_option maxRecDepth 100000 in
theorem g_X8_chance_83 {κ : KC} {ω : KW} {A : Nat → Prop} {ad : Nat → Nat} {u_above : Int64} {u_below : Int64} {u_firsts : Int32} {u_freed : Int32} {u_whole : Int64} {N : Nat} {c_askers : Int32} {c_places : Int32} {c_seats : Nat → Int32} {c_wish : Nat → Int32}  {k42 : Int32 → (Nat → Int32) → (Nat → Int32) → Int32 → Int32 → Int32 → Int32 → Int32 → Option (Int32 × Int32 × (Nat → Int32) × (Nat → Int32))} {res : Int32 × Int32 × (Nat → Int32) × (Nat → Int32)} (hk42 : ∀ {c_full : Int32} {c_ways : Nat → Int32} {c_weight : Nat → Int32} {v1 : Int32} {v2 : Int32} {v3 : Int32} {v4 : Int32} {v5 : Int32}, k42 c_full c_ways c_weight v1 v2 v3 v4 v5 = some res → GG mu_X8_chance κ ω A (QR κ ω A ad (some (.int res.1)) (w_X8_chance c_askers c_places res.2.1 c_seats res.2.2.1 res.2.2.2 c_wish u_above u_below u_firsts u_freed u_whole)) ad 0 0 42 (w_X8_chance c_askers c_places c_full c_seats c_ways c_weight c_wish u_above u_below u_firsts u_freed u_whole) [some (.ref 0), some (.int v1), some (.int v2), some (.int v3), some (.int v4), some (.int v5), none, none, none, none, none, none] []) {c_full : Int32} {c_ways : Nat → Int32} {c_weight : Nat → Int32} {v1 : Int32} {v2 : Int32} {v3 : Int32} {v4 : Int32} {v5 : Int32} {s1 : Int32} {s2 : Int32} (hf : f_X8_chance_83 N c_askers c_places c_seats c_wish k42 c_full c_ways c_weight v1 v2 v3 v4 v5 s1 s2 = some res) : GG mu_X8_chance κ ω A (QR κ ω A ad (some (.int res.1)) (w_X8_chance c_askers c_places res.2.1 c_seats res.2.2.1 res.2.2.2 c_wish u_above u_below u_firsts u_freed u_whole)) ad 0 0 83 (w_X8_chance c_askers c_places c_full c_seats c_ways c_weight c_wish u_above u_below u_firsts u_freed u_whole) [some (.ref 0), some (.int v1), some (.int v2), some (.int v3), some (.int v4), some (.int v5), none, none, none, none, none, none] [.int s2, .int s1, .ref 2] := by
  obtain ⟨t1, ht1, hf⟩ := ob hf
  refine G_iast (w2 := (w_X8_chance c_askers c_places c_full c_seats t1 c_weight c_wish u_above u_below u_firsts u_freed u_whole)) dX8_chance_83 rfl ht1 rfl ?_
  refine G_iinc 1 dX8_chance_84 (by decide) rfl (ltb rfl) ?_
  change GG _ _ _ _ _ _ _ _ _ _ [some (.ref 0), some (.int v1), some (.int v2), some (.int v3), some (.int v4), some (.int (v5 + 1)), none, none, none, none, none, none] _
  refine G_goto 42 dX8_chance_87 (by decide) ?_
  exact hk42 hf
def f_X8_chance_82 (N : Nat) (c_askers : Int32) (c_places : Int32) (c_seats : Nat → Int32) (c_wish : Nat → Int32) (k42 : Int32 → (Nat → Int32) → (Nat → Int32) → Int32 → Int32 → Int32 → Int32 → Int32 → Option (Int32 × Int32 × (Nat → Int32) × (Nat → Int32))) (c_full : Int32) (c_ways : Nat → Int32) (c_weight : Nat → Int32) (v1 : Int32) (v2 : Int32) (v3 : Int32) (v4 : Int32) (v5 : Int32) (s1 : Int32) : Option (Int32 × Int32 × (Nat → Int32) × (Nat → Int32)) :=
    f_X8_chance_83 N c_askers c_places c_seats c_wish k42 c_full c_ways c_weight v1 v2 v3 v4 v5 s1 0
set_option maxHeartbeats 4000000 in
set_option maxRecDepth 100000 in
theorem g_X8_chance_82 {κ : KC} {ω : KW} {A : Nat → Prop} {ad : Nat → Nat} {u_above : Int64} {u_below : Int64} {u_firsts : Int32} {u_freed : Int32} {u_whole : Int64} {N : Nat} {c_askers : Int32} {c_places : Int32} {c_seats : Nat → Int32} {c_wish : Nat → Int32}  {k42 : Int32 → (Nat → Int32) → (Nat → Int32) → Int32 → Int32 → Int32 → Int32 → Int32 → Option (Int32 × Int32 × (Nat → Int32) × (Nat → Int32))} {res : Int32 × Int32 × (Nat → Int32) × (Nat → Int32)} (hk42 : ∀ {c_full : Int32} {c_ways : Nat → Int32} {c_weight : Nat → Int32} {v1 : Int32} {v2 : Int32} {v3 : Int32} {v4 : Int32} {v5 : Int32}, k42 c_full c_ways c_weight v1 v2 v3 v4 v5 = some res → GG mu_X8_chance κ ω A (QR κ ω A ad (some (.int res.1)) (w_X8_chance c_askers c_places res.2.1 c_seats res.2.2.1 res.2.2.2 c_wish u_above u_below u_firsts u_freed u_whole)) ad 0 0 42 (w_X8_chance c_askers c_places c_full c_seats c_ways c_weight c_wish u_above u_below u_firsts u_freed u_whole) [some (.ref 0), some (.int v1), some (.int v2), some (.int v3), some (.int v4), some (.int v5), none, none, none, none, none, none] []) {c_full : Int32} {c_ways : Nat → Int32} {c_weight : Nat → Int32} {v1 : Int32} {v2 : Int32} {v3 : Int32} {v4 : Int32} {v5 : Int32} {s1 : Int32} (hf : f_X8_chance_82 N c_askers c_places c_seats c_wish k42 c_full c_ways c_weight v1 v2 v3 v4 v5 s1 = some res) : GG mu_X8_chance κ ω A (QR κ ω A ad (some (.int res.1)) (w_X8_chance c_askers c_places res.2.1 c_seats res.2.2.1 res.2.2.2 c_wish u_above u_below u_firsts u_freed u_whole)) ad 0 0 82 (w_X8_chance c_askers c_places c_full c_seats c_ways c_weight c_wish u_above u_below u_firsts u_freed u_whole) [some (.ref 0), some (.int v1), some (.int v2), some (.int v3), some (.int v4), some (.int v5), none, none, none, none, none, none] [.int s1, .ref 2] := by
  refine G_iconst 0 dX8_chance_82 (by decide) ?_
  exact g_X8_chance_83 hk42 hf
def f_X8_chance_42 (N : Nat) (c_askers : Int32) (c_places : Int32) (c_seats : Nat → Int32) (c_wish : Nat → Int32) (k33 : Int32 → (Nat → Int32) → (Nat → Int32) → Int32 → Int32 → Int32 → Int32 → Option (Int32 × Int32 × (Nat → Int32) × (Nat → Int32))) : Nat → Int32 → (Nat → Int32) → (Nat → Int32) → Int32 → Int32 → Int32 → Int32 → Int32 → Option (Int32 × Int32 × (Nat → Int32) × (Nat → Int32))
  | 0, _, _, _, _, _, _, _, _ => none
  | n + 1, c_full, c_ways, c_weight, v1, v2, v3, v4, v5 =>
    (if c_full < v5 then
      k33 c_full c_ways c_weight v1 v2 v3 (v4 + 1)
    else
      (if v4 = 0 then
        (if v5 = c_full then
          f_X8_chance_83 N c_askers c_places c_seats c_wish (f_X8_chance_42 N c_askers c_places c_seats c_wish k33 n) c_full c_ways c_weight v1 v2 v3 v4 v5 ((4096 * v4) + v5) 1
        else
          f_X8_chance_82 N c_askers c_places c_seats c_wish (f_X8_chance_42 N c_askers c_places c_seats c_wish k33 n) c_full c_ways c_weight v1 v2 v3 v4 v5 ((4096 * v4) + v5))
      else
        f_X8_chance_82 N c_askers c_places c_seats c_wish (f_X8_chance_42 N c_askers c_places c_seats c_wish k33 n) c_full c_ways c_weight v1 v2 v3 v4 v5 ((4096 * v4) + v5)))
set_option maxHeartbeats 4000000 in
set_option maxRecDepth 100000 in
theorem g_X8_chance_42 {κ : KC} {ω : KW} {A : Nat → Prop} {ad : Nat → Nat} {u_above : Int64} {u_below : Int64} {u_firsts : Int32} {u_freed : Int32} {u_whole : Int64} {N : Nat} {c_askers : Int32} {c_places : Int32} {c_seats : Nat → Int32} {c_wish : Nat → Int32}  {k33 : Int32 → (Nat → Int32) → (Nat → Int32) → Int32 → Int32 → Int32 → Int32 → Option (Int32 × Int32 × (Nat → Int32) × (Nat → Int32))} {res : Int32 × Int32 × (Nat → Int32) × (Nat → Int32)} (hk33 : ∀ {c_full : Int32} {c_ways : Nat → Int32} {c_weight : Nat → Int32} {v1 : Int32} {v2 : Int32} {v3 : Int32} {v4 : Int32}, k33 c_full c_ways c_weight v1 v2 v3 v4 = some res → GG mu_X8_chance κ ω A (QR κ ω A ad (some (.int res.1)) (w_X8_chance c_askers c_places res.2.1 c_seats res.2.2.1 res.2.2.2 c_wish u_above u_below u_firsts u_freed u_whole)) ad 0 0 33 (w_X8_chance c_askers c_places c_full c_seats c_ways c_weight c_wish u_above u_below u_firsts u_freed u_whole) [some (.ref 0), some (.int v1), some (.int v2), some (.int v3), some (.int v4), none, none, none, none, none, none, none] []) : ∀ (n : Nat) {c_full : Int32} {c_ways : Nat → Int32} {c_weight : Nat → Int32} {v1 : Int32} {v2 : Int32} {v3 : Int32} {v4 : Int32} {v5 : Int32}, f_X8_chance_42 N c_askers c_places c_seats c_wish k33 n c_full c_ways c_weight v1 v2 v3 v4 v5 = some res → GG mu_X8_chance κ ω A (QR κ ω A ad (some (.int res.1)) (w_X8_chance c_askers c_places res.2.1 c_seats res.2.2.1 res.2.2.2 c_wish u_above u_below u_firsts u_freed u_whole)) ad 0 0 42 (w_X8_chance c_askers c_places c_full c_seats c_ways c_weight c_wish u_above u_below u_firsts u_freed u_whole) [some (.ref 0), some (.int v1), some (.int v2), some (.int v3), some (.int v4), some (.int v5), none, none, none, none, none, none] [] := by
  intro n
  induction n with
  | zero => intro c_full c_ways c_weight v1 v2 v3 v4 v5 hf; exact ob_0 hf
  | succ n ih =>
    intro c_full c_ways c_weight v1 v2 v3 v4 v5 hf
    refine G_iload dX8_chance_42 rfl ?_
    refine G_aload_n dX8_chance_44 rfl rfl ?_
    refine G_get (v := .int c_full) F_X8_114 dX8_chance_45 rfl rfl ?_
    refine G_icmp_gt 90 dX8_chance_48 (by decide) (fun h1 => ?_) (fun h1 => ?_)
    · replace hf := ob_t h1 hf
      refine G_iinc 1 dX8_chance_90 (by decide) rfl (ltb rfl) ?_
      change GG _ _ _ _ _ _ _ _ _ _ [some (.ref 0), some (.int v1), some (.int v2), some (.int v3), some (.int (v4 + 1)), some (.int v5), none, none, none, none, none, none] _
      refine G_goto 33 dX8_chance_93 (by decide) ?_
      refine GG.sb (lv2 := [some (.ref 0), some (.int v1), some (.int v2), some (.int v3), some (.int (v4 + 1)), none, none, none, none, none, none, none]) ?_ (lvS_v rfl (lvS_v rfl (lvS_v rfl (lvS_v rfl (lvS_v rfl (lvS_n (lvS_n (lvS_n (lvS_n (lvS_n (lvS_n (lvS_n (lvS_e)))))))))))))
      exact hk33 hf
    · replace hf := ob_f h1 hf
      refine G_aload_n dX8_chance_51 rfl rfl ?_
      refine G_get (v := .ref 2) F_X8_66 dX8_chance_52 rfl rfl ?_
      refine G_sipush 4096 dX8_chance_55 (by decide) ?_
      refine G_iload dX8_chance_58 rfl ?_
      refine G_imul dX8_chance_60 ?_
      refine G_iload dX8_chance_61 rfl ?_
      refine G_iadd dX8_chance_63 ?_
      refine G_iload dX8_chance_64 rfl ?_
      refine G_if_ne 82 dX8_chance_66 (by decide) (fun h2 => ?_) (fun h2 => ?_)
      · replace hf := ob_f h2 hf
        exact g_X8_chance_82 ih hf
      · replace hf := ob_t h2 hf
        refine G_iload dX8_chance_69 rfl ?_
        refine G_aload_n dX8_chance_71 rfl rfl ?_
        refine G_get (v := .int c_full) F_X8_114 dX8_chance_72 rfl rfl ?_
        refine G_icmp_ne 82 dX8_chance_75 (by decide) (fun h3 => ?_) (fun h3 => ?_)
        · replace hf := ob_f h3 hf
          exact g_X8_chance_82 ih hf
        · replace hf := ob_t h3 hf
          refine G_iconst 1 dX8_chance_78 (by decide) ?_
          refine G_goto 83 dX8_chance_79 (by decide) ?_
          exact g_X8_chance_83 ih hf
def f_X8_chance_33 (N : Nat) (c_askers : Int32) (c_places : Int32) (c_seats : Nat → Int32) (c_wish : Nat → Int32) : Nat → Int32 → (Nat → Int32) → (Nat → Int32) → Int32 → Int32 → Int32 → Int32 → Option (Int32 × Int32 × (Nat → Int32) × (Nat → Int32))
  | 0, _, _, _, _, _, _, _ => none
  | n + 1, c_full, c_ways, c_weight, v1, v2, v3, v4 =>
    (if v3 ≤ v4 then
      f_X8_chance_102 N c_askers c_places c_seats c_wish N c_full c_ways c_weight v1 v2 v3 0 0
    else
      f_X8_chance_42 N c_askers c_places c_seats c_wish (f_X8_chance_33 N c_askers c_places c_seats c_wish n) N c_full c_ways c_weight v1 v2 v3 v4 0)
set_option maxHeartbeats 4000000 in
set_option maxRecDepth 100000 in
theorem g_X8_chance_33 {κ : KC} {ω : KW} {A : Nat → Prop} {ad : Nat → Nat} {u_above : Int64} {u_below : Int64} {u_firsts : Int32} {u_freed : Int32} {u_whole : Int64} {N : Nat} {c_askers : Int32} {c_places : Int32} {c_seats : Nat → Int32} {c_wish : Nat → Int32}  {res : Int32 × Int32 × (Nat → Int32) × (Nat → Int32)} : ∀ (n : Nat) {c_full : Int32} {c_ways : Nat → Int32} {c_weight : Nat → Int32} {v1 : Int32} {v2 : Int32} {v3 : Int32} {v4 : Int32}, f_X8_chance_33 N c_askers c_places c_seats c_wish n c_full c_ways c_weight v1 v2 v3 v4 = some res → GG mu_X8_chance κ ω A (QR κ ω A ad (some (.int res.1)) (w_X8_chance c_askers c_places res.2.1 c_seats res.2.2.1 res.2.2.2 c_wish u_above u_below u_firsts u_freed u_whole)) ad 0 0 33 (w_X8_chance c_askers c_places c_full c_seats c_ways c_weight c_wish u_above u_below u_firsts u_freed u_whole) [some (.ref 0), some (.int v1), some (.int v2), some (.int v3), some (.int v4), none, none, none, none, none, none, none] [] := by
  intro n
  induction n with
  | zero => intro c_full c_ways c_weight v1 v2 v3 v4 hf; exact ob_0 hf
  | succ n ih =>
    intro c_full c_ways c_weight v1 v2 v3 v4 hf
    refine G_iload dX8_chance_33 rfl ?_
    refine G_iload_n dX8_chance_35 rfl rfl ?_
    refine G_icmp_ge 96 dX8_chance_36 (by decide) (fun h1 => ?_) (fun h1 => ?_)
    · replace hf := ob_t h1 hf
      refine G_iconst 0 dX8_chance_96 (by decide) ?_
      refine G_istore dX8_chance_97 (ltb rfl) ?_
      change GG _ _ _ _ _ _ _ _ _ _ [some (.ref 0), some (.int v1), some (.int v2), some (.int v3), some (.int 0), none, none, none, none, none, none, none] _
      refine G_iconst 0 dX8_chance_99 (by decide) ?_
      refine G_istore dX8_chance_100 (ltb rfl) ?_
      change GG _ _ _ _ _ _ _ _ _ _ [some (.ref 0), some (.int v1), some (.int v2), some (.int v3), some (.int 0), some (.int 0), none, none, none, none, none, none] _
      exact g_X8_chance_102 N hf
    · replace hf := ob_f h1 hf
      refine G_iconst 0 dX8_chance_39 (by decide) ?_
      refine G_istore dX8_chance_40 (ltb rfl) ?_
      change GG _ _ _ _ _ _ _ _ _ _ [some (.ref 0), some (.int v1), some (.int v2), some (.int v3), some (.int v4), some (.int 0), none, none, none, none, none, none] _
      exact g_X8_chance_42 ih N hf
def f_X8_chance (N : Nat) (c_askers : Int32) (c_places : Int32) (c_seats : Nat → Int32) (c_wish : Nat → Int32) (c_full : Int32) (c_ways : Nat → Int32) (c_weight : Nat → Int32) (a1 : Int32) (a2 : Int32) : Option (Int32 × Int32 × (Nat → Int32) × (Nat → Int32)) :=
  (f_X8_isAsker N c_askers a1).bind fun r1 =>
  (if r1 = 0 then
    some ((-2 : Int32), c_full, c_ways, c_weight)
  else
    (f_X8_isPlace N c_places a2).bind fun r4 =>
    (if r4 = 0 then
      some ((-2 : Int32), c_full, c_ways, c_weight)
    else
      (f_X8_findWeights N c_places c_seats c_full c_weight).bind fun (o7, o8) =>
      f_X8_chance_33 N c_askers c_places c_seats c_wish N o7 c_ways o8 a1 a2 ((1 : Int32) <<< (c_askers &&& 31)) 0))
set_option maxHeartbeats 4000000 in
set_option maxRecDepth 100000 in
theorem c_X8_chance {N : Nat} {c_askers : Int32} {c_places : Int32} {c_seats : Nat → Int32} {c_wish : Nat → Int32} {c_full : Int32} {c_ways : Nat → Int32} {c_weight : Nat → Int32} {u_above : Int64} {u_below : Int64} {u_firsts : Int32} {u_freed : Int32} {u_whole : Int64} {a1 : Int32} {a2 : Int32} {res : Int32 × Int32 × (Nat → Int32) × (Nat → Int32)} (hf : f_X8_chance N c_askers c_places c_seats c_wish c_full c_ways c_weight a1 a2 = some res) : Con mu_X8_chance [.ref 0, .int a1, .int a2] (w_X8_chance c_askers c_places c_full c_seats c_ways c_weight c_wish u_above u_below u_firsts u_freed u_whole) (some (.int res.1)) (w_X8_chance c_askers c_places res.2.1 c_seats res.2.2.1 res.2.2.2 c_wish u_above u_below u_firsts u_freed u_whole) := by
  refine Con.mk (show plainName RX8 = true by decide +kernel) (leb rfl) (fun κ ω A ad => ?_)
  change GG mu_X8_chance κ ω A (QR κ ω A ad (some (.int res.1)) (w_X8_chance c_askers c_places res.2.1 c_seats res.2.2.1 res.2.2.2 c_wish u_above u_below u_firsts u_freed u_whole)) ad 0 0 0 (w_X8_chance c_askers c_places c_full c_seats c_ways c_weight c_wish u_above u_below u_firsts u_freed u_whole) [some (.ref 0), some (.int a1), some (.int a2), none, none, none, none, none, none, none, none, none] []
  refine G_aload_n dX8_chance_0 rfl rfl ?_
  refine G_iload_n dX8_chance_1 rfl rfl ?_
  obtain ⟨r1, hc2, hf⟩ := ob hf
  refine G_callV (μ2 := mu_X8_isAsker) (As := [.int a1]) (w2 := (w_X8_chance c_askers c_places c_full c_seats c_ways c_weight c_wish u_above u_below u_firsts u_freed u_whole)) (wc := (w_X8_isAsker c_askers c_places u_above u_below c_full u_firsts u_freed u_whole)) (wc2 := (w_X8_isAsker c_askers c_places u_above u_below c_full u_firsts u_freed u_whole)) (rest := []) (rv := [.int r1]) [0] [1, 4, 1000, 3, 1001, 1002, 1003, 1004, 1005, 1006, 1007, 1008, 1009, 1010, 1011, 1012, 1013, 2, 1014, 1015, 1016] [1, 2, 3, 4] [4, 0, 1, 2, 3] (c_X8_isAsker hc2) cw_X8_isAsker m_X8_108 dX8_chance_2 rfl ⟨leb rfl, leb rfl⟩ ⟨rfl, rfl⟩ rfl ⟨_, rfl, rfl⟩ (Fit.mk rfl rfl rfl) rfl (leb rfl) (ROsub.nil rfl rfl) rfl ?_
  change GG _ _ _ _ _ _ _ _ _ (w_X8_chance c_askers c_places c_full c_seats c_ways c_weight c_wish u_above u_below u_firsts u_freed u_whole) [some (.ref 0), some (.int a1), some (.int a2), none, none, none, none, none, none, none, none, none] [.int r1]
  refine G_if_eq 16 dX8_chance_5 (by decide) (fun h3 => ?_) (fun h3 => ?_)
  · replace hf := ob_t h3 hf
    refine G_bipush (-2 : Int32) dX8_chance_16 (by decide) ?_
    obtain rfl := os hf
    exact G_ireturn dX8_chance_18 rfl
  · replace hf := ob_f h3 hf
    refine G_aload_n dX8_chance_8 rfl rfl ?_
    refine G_iload_n dX8_chance_9 rfl rfl ?_
    obtain ⟨r4, hc5, hf⟩ := ob hf
    refine G_callV (μ2 := mu_X8_isPlace) (As := [.int a2]) (w2 := (w_X8_chance c_askers c_places c_full c_seats c_ways c_weight c_wish u_above u_below u_firsts u_freed u_whole)) (wc := (w_X8_isPlace c_places c_askers u_above u_below c_full u_firsts u_freed u_whole)) (wc2 := (w_X8_isPlace c_places c_askers u_above u_below c_full u_firsts u_freed u_whole)) (rest := []) (rv := [.int r4]) [0] [1, 4, 1000, 3, 1001, 1002, 1003, 1004, 1005, 1006, 1007, 1008, 1009, 1010, 1011, 1012, 1013, 2, 1014, 1015, 1016] [1, 2, 3, 4] [4, 0, 1, 2, 3] (c_X8_isPlace hc5) cw_X8_isPlace m_X8_100 dX8_chance_10 rfl ⟨leb rfl, leb rfl⟩ ⟨rfl, rfl⟩ rfl ⟨_, rfl, rfl⟩ (Fit.mk rfl rfl rfl) rfl (leb rfl) (ROsub.nil rfl rfl) rfl ?_
    change GG _ _ _ _ _ _ _ _ _ (w_X8_chance c_askers c_places c_full c_seats c_ways c_weight c_wish u_above u_below u_firsts u_freed u_whole) [some (.ref 0), some (.int a1), some (.int a2), none, none, none, none, none, none, none, none, none] [.int r4]
    refine G_if_ne 19 dX8_chance_13 (by decide) (fun h6 => ?_) (fun h6 => ?_)
    · replace hf := ob_f h6 hf
      refine G_aload_n dX8_chance_19 rfl rfl ?_
      obtain ⟨⟨o7, o8⟩, hc9, hf⟩ := ob hf
      refine G_callV (μ2 := mu_X8_findWeights) (As := []) (w2 := (w_X8_chance c_askers c_places o7 c_seats c_ways o8 c_wish u_above u_below u_firsts u_freed u_whole)) (wc := (w_X8_findWeights c_places c_full c_seats c_weight c_askers u_above u_below u_firsts u_freed u_whole)) (wc2 := (w_X8_findWeights c_places o7 c_seats o8 c_askers u_above u_below u_firsts u_freed u_whole)) (rest := []) (rv := []) [0, 1, 3] [4, 1000, 1001, 1002, 1003, 1004, 1005, 1006, 1007, 1008, 1009, 1010, 1011, 1012, 1013, 2, 1014, 1015, 1016] [2, 4] [2, 3, 0, 4, 1] (c_X8_findWeights hc9) cw_X8_findWeights m_X8_117 dX8_chance_20 rfl ⟨leb rfl, leb rfl⟩ ⟨rfl, rfl⟩ rfl ⟨_, rfl, rfl⟩ (Fit.mk rfl rfl rfl) rfl (leb rfl) (ROsub.nil rfl rfl) rfl ?_
      change GG _ _ _ _ _ _ _ _ _ (w_X8_chance c_askers c_places o7 c_seats c_ways o8 c_wish u_above u_below u_firsts u_freed u_whole) [some (.ref 0), some (.int a1), some (.int a2), none, none, none, none, none, none, none, none, none] []
      refine G_iconst 1 dX8_chance_23 (by decide) ?_
      refine G_aload_n dX8_chance_24 rfl rfl ?_
      refine G_get (v := .int c_askers) F_X8_89 dX8_chance_25 rfl rfl ?_
      refine G_ishl dX8_chance_28 ?_
      refine G_istore_n dX8_chance_29 rfl (ltb rfl) ?_
      change GG _ _ _ _ _ _ _ _ _ _ [some (.ref 0), some (.int a1), some (.int a2), some (.int ((1 : Int32) <<< (c_askers &&& 31))), none, none, none, none, none, none, none, none] _
      refine G_iconst 0 dX8_chance_30 (by decide) ?_
      refine G_istore dX8_chance_31 (ltb rfl) ?_
      change GG _ _ _ _ _ _ _ _ _ _ [some (.ref 0), some (.int a1), some (.int a2), some (.int ((1 : Int32) <<< (c_askers &&& 31))), some (.int 0), none, none, none, none, none, none, none] _
      exact g_X8_chance_33 N hf
    · replace hf := ob_t h6 hf
      refine G_bipush (-2 : Int32) dX8_chance_16 (by decide) ?_
      obtain rfl := os hf
      exact G_ireturn dX8_chance_18 rfl
set_option maxRecDepth 20000 in
theorem dX8_eatsOf_0 : decode cX8_eatsOf 0 = .ok (.iconst (-1), 1) := by decide +kernel
set_option maxRecDepth 20000 in
theorem dX8_eatsOf_1 : decode cX8_eatsOf 1 = .ok (.istore_n 2, 1) := by decide +kernel
set_option maxRecDepth 20000 in
theorem dX8_eatsOf_2 : decode cX8_eatsOf 2 = .ok (.iconst 0, 1) := by decide +kernel
set_option maxRecDepth 20000 in
theorem dX8_eatsOf_3 : decode cX8_eatsOf 3 = .ok (.istore_n 3, 1) := by decide +kernel
set_option maxRecDepth 20000 in
theorem dX8_eatsOf_4 : decode cX8_eatsOf 4 = .ok (.iload_n 3, 1) := by decide +kernel
set_option maxRecDepth 20000 in
theorem dX8_eatsOf_5 : decode cX8_eatsOf 5 = .ok (.aload_n 0, 1) := by decide +kernel
set_option maxRecDepth 20000 in
theorem dX8_eatsOf_6 : decode cX8_eatsOf 6 = .ok (.getfield 97, 3) := by decide +kernel
set_option maxRecDepth 20000 in
theorem dX8_eatsOf_9 : decode cX8_eatsOf 9 = .ok (.if_icmp .ge 82, 3) := by decide +kernel
set_option maxRecDepth 20000 in
theorem dX8_eatsOf_12 : decode cX8_eatsOf 12 = .ok (.aload_n 0, 1) := by decide +kernel
set_option maxRecDepth 20000 in
theorem dX8_eatsOf_13 : decode cX8_eatsOf 13 = .ok (.getfield 69, 3) := by decide +kernel
set_option maxRecDepth 20000 in
theorem dX8_eatsOf_16 : decode cX8_eatsOf 16 = .ok (.iload_n 3, 1) := by decide +kernel
set_option maxRecDepth 20000 in
theorem dX8_eatsOf_17 : decode cX8_eatsOf 17 = .ok (.laload, 1) := by decide +kernel
set_option maxRecDepth 20000 in
theorem dX8_eatsOf_18 : decode cX8_eatsOf 18 = .ok (.lconst 0, 1) := by decide +kernel
set_option maxRecDepth 20000 in
theorem dX8_eatsOf_19 : decode cX8_eatsOf 19 = .ok (.lcmp, 1) := by decide +kernel
set_option maxRecDepth 20000 in
theorem dX8_eatsOf_20 : decode cX8_eatsOf 20 = .ok (.ifCond .le 21, 3) := by decide +kernel
set_option maxRecDepth 20000 in
theorem dX8_eatsOf_23 : decode cX8_eatsOf 23 = .ok (.aload_n 0, 1) := by decide +kernel
set_option maxRecDepth 20000 in
theorem dX8_eatsOf_24 : decode cX8_eatsOf 24 = .ok (.getfield 13, 3) := by decide +kernel
set_option maxRecDepth 20000 in
theorem dX8_eatsOf_27 : decode cX8_eatsOf 27 = .ok (.bipush 6, 2) := by decide +kernel
set_option maxRecDepth 20000 in
theorem dX8_eatsOf_29 : decode cX8_eatsOf 29 = .ok (.iload_n 1, 1) := by decide +kernel
set_option maxRecDepth 20000 in
theorem dX8_eatsOf_30 : decode cX8_eatsOf 30 = .ok (.imul, 1) := by decide +kernel
set_option maxRecDepth 20000 in
theorem dX8_eatsOf_31 : decode cX8_eatsOf 31 = .ok (.iload_n 3, 1) := by decide +kernel
set_option maxRecDepth 20000 in
theorem dX8_eatsOf_32 : decode cX8_eatsOf 32 = .ok (.iadd, 1) := by decide +kernel
set_option maxRecDepth 20000 in
theorem dX8_eatsOf_33 : decode cX8_eatsOf 33 = .ok (.iaload, 1) := by decide +kernel
set_option maxRecDepth 20000 in
theorem dX8_eatsOf_34 : decode cX8_eatsOf 34 = .ok (.ifCond .le 7, 3) := by decide +kernel
set_option maxRecDepth 20000 in
theorem dX8_eatsOf_37 : decode cX8_eatsOf 37 = .ok (.iconst 1, 1) := by decide +kernel
set_option maxRecDepth 20000 in
theorem dX8_eatsOf_38 : decode cX8_eatsOf 38 = .ok (.goto 4, 3) := by decide +kernel
set_option maxRecDepth 20000 in
theorem dX8_eatsOf_41 : decode cX8_eatsOf 41 = .ok (.iconst 0, 1) := by decide +kernel
set_option maxRecDepth 20000 in
theorem dX8_eatsOf_42 : decode cX8_eatsOf 42 = .ok (.istore 4, 2) := by decide +kernel
set_option maxRecDepth 20000 in
theorem dX8_eatsOf_44 : decode cX8_eatsOf 44 = .ok (.iload 4, 2) := by decide +kernel
set_option maxRecDepth 20000 in
theorem dX8_eatsOf_46 : decode cX8_eatsOf 46 = .ok (.ifCond .eq 37, 3) := by decide +kernel
set_option maxRecDepth 20000 in
theorem dX8_eatsOf_49 : decode cX8_eatsOf 49 = .ok (.iload_n 2, 1) := by decide +kernel
set_option maxRecDepth 20000 in
theorem dX8_eatsOf_50 : decode cX8_eatsOf 50 = .ok (.iconst (-1), 1) := by decide +kernel
set_option maxRecDepth 20000 in
theorem dX8_eatsOf_51 : decode cX8_eatsOf 51 = .ok (.if_icmp .eq 28, 3) := by decide +kernel
set_option maxRecDepth 20000 in
theorem dX8_eatsOf_54 : decode cX8_eatsOf 54 = .ok (.aload_n 0, 1) := by decide +kernel
set_option maxRecDepth 20000 in
theorem dX8_eatsOf_55 : decode cX8_eatsOf 55 = .ok (.getfield 13, 3) := by decide +kernel
set_option maxRecDepth 20000 in
theorem dX8_eatsOf_58 : decode cX8_eatsOf 58 = .ok (.bipush 6, 2) := by decide +kernel
set_option maxRecDepth 20000 in
theorem dX8_eatsOf_60 : decode cX8_eatsOf 60 = .ok (.iload_n 1, 1) := by decide +kernel
set_option maxRecDepth 20000 in
theorem dX8_eatsOf_61 : decode cX8_eatsOf 61 = .ok (.imul, 1) := by decide +kernel
set_option maxRecDepth 20000 in
theorem dX8_eatsOf_62 : decode cX8_eatsOf 62 = .ok (.iload_n 3, 1) := by decide +kernel
set_option maxRecDepth 20000 in
theorem dX8_eatsOf_63 : decode cX8_eatsOf 63 = .ok (.iadd, 1) := by decide +kernel
set_option maxRecDepth 20000 in
theorem dX8_eatsOf_64 : decode cX8_eatsOf 64 = .ok (.iaload, 1) := by decide +kernel
set_option maxRecDepth 20000 in
theorem dX8_eatsOf_65 : decode cX8_eatsOf 65 = .ok (.aload_n 0, 1) := by decide +kernel
set_option maxRecDepth 20000 in
theorem dX8_eatsOf_66 : decode cX8_eatsOf 66 = .ok (.getfield 13, 3) := by decide +kernel
set_option maxRecDepth 20000 in
theorem dX8_eatsOf_69 : decode cX8_eatsOf 69 = .ok (.bipush 6, 2) := by decide +kernel
set_option maxRecDepth 20000 in
theorem dX8_eatsOf_71 : decode cX8_eatsOf 71 = .ok (.iload_n 1, 1) := by decide +kernel
set_option maxRecDepth 20000 in
theorem dX8_eatsOf_72 : decode cX8_eatsOf 72 = .ok (.imul, 1) := by decide +kernel
set_option maxRecDepth 20000 in
theorem dX8_eatsOf_73 : decode cX8_eatsOf 73 = .ok (.iload_n 2, 1) := by decide +kernel
set_option maxRecDepth 20000 in
theorem dX8_eatsOf_74 : decode cX8_eatsOf 74 = .ok (.iadd, 1) := by decide +kernel
set_option maxRecDepth 20000 in
theorem dX8_eatsOf_75 : decode cX8_eatsOf 75 = .ok (.iaload, 1) := by decide +kernel
set_option maxRecDepth 20000 in
theorem dX8_eatsOf_76 : decode cX8_eatsOf 76 = .ok (.if_icmp .ge 7, 3) := by decide +kernel
set_option maxRecDepth 20000 in
theorem dX8_eatsOf_79 : decode cX8_eatsOf 79 = .ok (.iload_n 3, 1) := by decide +kernel
set_option maxRecDepth 20000 in
theorem dX8_eatsOf_80 : decode cX8_eatsOf 80 = .ok (.goto 4, 3) := by decide +kernel
set_option maxRecDepth 20000 in
theorem dX8_eatsOf_83 : decode cX8_eatsOf 83 = .ok (.iload_n 2, 1) := by decide +kernel
set_option maxRecDepth 20000 in
theorem dX8_eatsOf_84 : decode cX8_eatsOf 84 = .ok (.istore_n 2, 1) := by decide +kernel
set_option maxRecDepth 20000 in
theorem dX8_eatsOf_85 : decode cX8_eatsOf 85 = .ok (.iinc 3 1, 3) := by decide +kernel
set_option maxRecDepth 20000 in
theorem dX8_eatsOf_88 : decode cX8_eatsOf 88 = .ok (.goto (-84), 3) := by decide +kernel
set_option maxRecDepth 20000 in
theorem dX8_eatsOf_91 : decode cX8_eatsOf 91 = .ok (.iload_n 2, 1) := by decide +kernel
set_option maxRecDepth 20000 in
theorem dX8_eatsOf_92 : decode cX8_eatsOf 92 = .ok (.ireturn, 1) := by decide +kernel
def f_X8_eatsOf_42 (N : Nat) (c_places : Int32) (c_leftOf : Nat → Int64) (c_wish : Nat → Int32) (k4 : Int32 → Int32 → Int32 → Option (Int32)) (v1 : Int32) (v2 : Int32) (v3 : Int32) (s0 : Int32) : Option (Int32) :=
    (if s0 = 0 then
      k4 v1 v2 (v3 + 1)
    else
      (if v2 = (-1 : Int32) then
        k4 v1 v3 (v3 + 1)
      else
        (rdI 48 c_wish ((6 * v1) + v3)).bind fun t3 =>
        (rdI 48 c_wish ((6 * v1) + v2)).bind fun t4 =>
        (if t4 ≤ t3 then
          k4 v1 v2 (v3 + 1)
        else
          k4 v1 v3 (v3 + 1))))
set_option maxHeartbeats 4000000 in
set_option maxRecDepth 100000 in
theorem g_X8_eatsOf_42 {κ : KC} {ω : KW} {A : Nat → Prop} {ad : Nat → Nat} {u_askers : Int32} {u_above : Int64} {u_below : Int64} {u_full : Int32} {u_firsts : Int32} {u_freed : Int32} {u_whole : Int64} {N : Nat} {c_places : Int32} {c_leftOf : Nat → Int64} {c_wish : Nat → Int32}  {k4 : Int32 → Int32 → Int32 → Option (Int32)} {res : Int32} (hk4 : ∀ {v1 : Int32} {v2 : Int32} {v3 : Int32}, k4 v1 v2 v3 = some res → GG mu_X8_eatsOf κ ω A (QR κ ω A ad (some (.int res)) (w_X8_eatsOf c_places c_leftOf c_wish u_askers u_above u_below u_full u_firsts u_freed u_whole)) ad 0 0 4 (w_X8_eatsOf c_places c_leftOf c_wish u_askers u_above u_below u_full u_firsts u_freed u_whole) [some (.ref 0), some (.int v1), some (.int v2), some (.int v3), none] []) {v1 : Int32} {v2 : Int32} {v3 : Int32} {s0 : Int32} (hf : f_X8_eatsOf_42 N c_places c_leftOf c_wish k4 v1 v2 v3 s0 = some res) : GG mu_X8_eatsOf κ ω A (QR κ ω A ad (some (.int res)) (w_X8_eatsOf c_places c_leftOf c_wish u_askers u_above u_below u_full u_firsts u_freed u_whole)) ad 0 0 42 (w_X8_eatsOf c_places c_leftOf c_wish u_askers u_above u_below u_full u_firsts u_freed u_whole) [some (.ref 0), some (.int v1), some (.int v2), some (.int v3), none] [.int s0] := by
  refine G_istore dX8_eatsOf_42 (ltb rfl) ?_
  change GG _ _ _ _ _ _ _ _ _ _ [some (.ref 0), some (.int v1), some (.int v2), some (.int v3), some (.int s0)] _
  refine G_iload dX8_eatsOf_44 rfl ?_
  refine G_if_eq 83 dX8_eatsOf_46 (by decide) (fun h1 => ?_) (fun h1 => ?_)
  · replace hf := ob_t h1 hf
    refine G_iload_n dX8_eatsOf_83 rfl rfl ?_
    refine G_istore_n dX8_eatsOf_84 rfl (ltb rfl) ?_
    change GG _ _ _ _ _ _ _ _ _ _ [some (.ref 0), some (.int v1), some (.int v2), some (.int v3), some (.int s0)] _
    refine G_iinc 1 dX8_eatsOf_85 (by decide) rfl (ltb rfl) ?_
    change GG _ _ _ _ _ _ _ _ _ _ [some (.ref 0), some (.int v1), some (.int v2), some (.int (v3 + 1)), some (.int s0)] _
    refine G_goto 4 dX8_eatsOf_88 (by decide) ?_
    refine GG.sb (lv2 := [some (.ref 0), some (.int v1), some (.int v2), some (.int (v3 + 1)), none]) ?_ (lvS_v rfl (lvS_v rfl (lvS_v rfl (lvS_v rfl (lvS_n (lvS_e))))))
    exact hk4 hf
  · replace hf := ob_f h1 hf
    refine G_iload_n dX8_eatsOf_49 rfl rfl ?_
    refine G_iconst (-1 : Int32) dX8_eatsOf_50 (by decide) ?_
    refine G_icmp_eq 79 dX8_eatsOf_51 (by decide) (fun h2 => ?_) (fun h2 => ?_)
    · replace hf := ob_t h2 hf
      refine G_iload_n dX8_eatsOf_79 rfl rfl ?_
      refine G_goto 84 dX8_eatsOf_80 (by decide) ?_
      refine G_istore_n dX8_eatsOf_84 rfl (ltb rfl) ?_
      change GG _ _ _ _ _ _ _ _ _ _ [some (.ref 0), some (.int v1), some (.int v3), some (.int v3), some (.int s0)] _
      refine G_iinc 1 dX8_eatsOf_85 (by decide) rfl (ltb rfl) ?_
      change GG _ _ _ _ _ _ _ _ _ _ [some (.ref 0), some (.int v1), some (.int v3), some (.int (v3 + 1)), some (.int s0)] _
      refine G_goto 4 dX8_eatsOf_88 (by decide) ?_
      refine GG.sb (lv2 := [some (.ref 0), some (.int v1), some (.int v3), some (.int (v3 + 1)), none]) ?_ (lvS_v rfl (lvS_v rfl (lvS_v rfl (lvS_v rfl (lvS_n (lvS_e))))))
      exact hk4 hf
    · replace hf := ob_f h2 hf
      refine G_aload_n dX8_eatsOf_54 rfl rfl ?_
      refine G_get (v := .ref 2) F_X8_13 dX8_eatsOf_55 rfl rfl ?_
      refine G_bipush 6 dX8_eatsOf_58 (by decide) ?_
      refine G_iload_n dX8_eatsOf_60 rfl rfl ?_
      refine G_imul dX8_eatsOf_61 ?_
      refine G_iload_n dX8_eatsOf_62 rfl rfl ?_
      refine G_iadd dX8_eatsOf_63 ?_
      obtain ⟨t3, ht3, hf⟩ := ob hf
      refine G_iald dX8_eatsOf_64 rfl ht3 ?_
      refine G_aload_n dX8_eatsOf_65 rfl rfl ?_
      refine G_get (v := .ref 2) F_X8_13 dX8_eatsOf_66 rfl rfl ?_
      refine G_bipush 6 dX8_eatsOf_69 (by decide) ?_
      refine G_iload_n dX8_eatsOf_71 rfl rfl ?_
      refine G_imul dX8_eatsOf_72 ?_
      refine G_iload_n dX8_eatsOf_73 rfl rfl ?_
      refine G_iadd dX8_eatsOf_74 ?_
      obtain ⟨t4, ht4, hf⟩ := ob hf
      refine G_iald dX8_eatsOf_75 rfl ht4 ?_
      refine G_icmp_ge 83 dX8_eatsOf_76 (by decide) (fun h5 => ?_) (fun h5 => ?_)
      · replace hf := ob_t h5 hf
        refine G_iload_n dX8_eatsOf_83 rfl rfl ?_
        refine G_istore_n dX8_eatsOf_84 rfl (ltb rfl) ?_
        change GG _ _ _ _ _ _ _ _ _ _ [some (.ref 0), some (.int v1), some (.int v2), some (.int v3), some (.int s0)] _
        refine G_iinc 1 dX8_eatsOf_85 (by decide) rfl (ltb rfl) ?_
        change GG _ _ _ _ _ _ _ _ _ _ [some (.ref 0), some (.int v1), some (.int v2), some (.int (v3 + 1)), some (.int s0)] _
        refine G_goto 4 dX8_eatsOf_88 (by decide) ?_
        refine GG.sb (lv2 := [some (.ref 0), some (.int v1), some (.int v2), some (.int (v3 + 1)), none]) ?_ (lvS_v rfl (lvS_v rfl (lvS_v rfl (lvS_v rfl (lvS_n (lvS_e))))))
        exact hk4 hf
      · replace hf := ob_f h5 hf
        refine G_iload_n dX8_eatsOf_79 rfl rfl ?_
        refine G_goto 84 dX8_eatsOf_80 (by decide) ?_
        refine G_istore_n dX8_eatsOf_84 rfl (ltb rfl) ?_
        change GG _ _ _ _ _ _ _ _ _ _ [some (.ref 0), some (.int v1), some (.int v3), some (.int v3), some (.int s0)] _
        refine G_iinc 1 dX8_eatsOf_85 (by decide) rfl (ltb rfl) ?_
        change GG _ _ _ _ _ _ _ _ _ _ [some (.ref 0), some (.int v1), some (.int v3), some (.int (v3 + 1)), some (.int s0)] _
        refine G_goto 4 dX8_eatsOf_88 (by decide) ?_
        refine GG.sb (lv2 := [some (.ref 0), some (.int v1), some (.int v3), some (.int (v3 + 1)), none]) ?_ (lvS_v rfl (lvS_v rfl (lvS_v rfl (lvS_v rfl (lvS_n (lvS_e))))))
        exact hk4 hf
def f_X8_eatsOf_41 (N : Nat) (c_places : Int32) (c_leftOf : Nat → Int64) (c_wish : Nat → Int32) (k4 : Int32 → Int32 → Int32 → Option (Int32)) (v1 : Int32) (v2 : Int32) (v3 : Int32) : Option (Int32) :=
    f_X8_eatsOf_42 N c_places c_leftOf c_wish k4 v1 v2 v3 0
set_option maxHeartbeats 4000000 in
set_option maxRecDepth 100000 in
theorem g_X8_eatsOf_41 {κ : KC} {ω : KW} {A : Nat → Prop} {ad : Nat → Nat} {u_askers : Int32} {u_above : Int64} {u_below : Int64} {u_full : Int32} {u_firsts : Int32} {u_freed : Int32} {u_whole : Int64} {N : Nat} {c_places : Int32} {c_leftOf : Nat → Int64} {c_wish : Nat → Int32}  {k4 : Int32 → Int32 → Int32 → Option (Int32)} {res : Int32} (hk4 : ∀ {v1 : Int32} {v2 : Int32} {v3 : Int32}, k4 v1 v2 v3 = some res → GG mu_X8_eatsOf κ ω A (QR κ ω A ad (some (.int res)) (w_X8_eatsOf c_places c_leftOf c_wish u_askers u_above u_below u_full u_firsts u_freed u_whole)) ad 0 0 4 (w_X8_eatsOf c_places c_leftOf c_wish u_askers u_above u_below u_full u_firsts u_freed u_whole) [some (.ref 0), some (.int v1), some (.int v2), some (.int v3), none] []) {v1 : Int32} {v2 : Int32} {v3 : Int32} (hf : f_X8_eatsOf_41 N c_places c_leftOf c_wish k4 v1 v2 v3 = some res) : GG mu_X8_eatsOf κ ω A (QR κ ω A ad (some (.int res)) (w_X8_eatsOf c_places c_leftOf c_wish u_askers u_above u_below u_full u_firsts u_freed u_whole)) ad 0 0 41 (w_X8_eatsOf c_places c_leftOf c_wish u_askers u_above u_below u_full u_firsts u_freed u_whole) [some (.ref 0), some (.int v1), some (.int v2), some (.int v3), none] [] := by
  refine G_iconst 0 dX8_eatsOf_41 (by decide) ?_
  exact g_X8_eatsOf_42 hk4 hf
def f_X8_eatsOf_4 (N : Nat) (c_places : Int32) (c_leftOf : Nat → Int64) (c_wish : Nat → Int32) : Nat → Int32 → Int32 → Int32 → Option (Int32)
  | 0, _, _, _ => none
  | n + 1, v1, v2, v3 =>
    (if c_places ≤ v3 then
      some v2
    else
      (rdL 6 c_leftOf v3).bind fun t2 =>
      (if t2 ≤ 0 then
        f_X8_eatsOf_41 N c_places c_leftOf c_wish (f_X8_eatsOf_4 N c_places c_leftOf c_wish n) v1 v2 v3
      else
        (rdI 48 c_wish ((6 * v1) + v3)).bind fun t4 =>
        (if t4 ≤ 0 then
          f_X8_eatsOf_41 N c_places c_leftOf c_wish (f_X8_eatsOf_4 N c_places c_leftOf c_wish n) v1 v2 v3
        else
          f_X8_eatsOf_42 N c_places c_leftOf c_wish (f_X8_eatsOf_4 N c_places c_leftOf c_wish n) v1 v2 v3 1)))
set_option maxHeartbeats 4000000 in
set_option maxRecDepth 100000 in
theorem g_X8_eatsOf_4 {κ : KC} {ω : KW} {A : Nat → Prop} {ad : Nat → Nat} {u_askers : Int32} {u_above : Int64} {u_below : Int64} {u_full : Int32} {u_firsts : Int32} {u_freed : Int32} {u_whole : Int64} {N : Nat} {c_places : Int32} {c_leftOf : Nat → Int64} {c_wish : Nat → Int32}  {res : Int32} : ∀ (n : Nat) {v1 : Int32} {v2 : Int32} {v3 : Int32}, f_X8_eatsOf_4 N c_places c_leftOf c_wish n v1 v2 v3 = some res → GG mu_X8_eatsOf κ ω A (QR κ ω A ad (some (.int res)) (w_X8_eatsOf c_places c_leftOf c_wish u_askers u_above u_below u_full u_firsts u_freed u_whole)) ad 0 0 4 (w_X8_eatsOf c_places c_leftOf c_wish u_askers u_above u_below u_full u_firsts u_freed u_whole) [some (.ref 0), some (.int v1), some (.int v2), some (.int v3), none] [] := by
  intro n
  induction n with
  | zero => intro v1 v2 v3 hf; exact ob_0 hf
  | succ n ih =>
    intro v1 v2 v3 hf
    refine G_iload_n dX8_eatsOf_4 rfl rfl ?_
    refine G_aload_n dX8_eatsOf_5 rfl rfl ?_
    refine G_get (v := .int c_places) F_X8_97 dX8_eatsOf_6 rfl rfl ?_
    refine G_icmp_ge 91 dX8_eatsOf_9 (by decide) (fun h1 => ?_) (fun h1 => ?_)
    · replace hf := ob_t h1 hf
      refine G_iload_n dX8_eatsOf_91 rfl rfl ?_
      obtain rfl := os hf
      exact G_ireturn dX8_eatsOf_92 rfl
    · replace hf := ob_f h1 hf
      refine G_aload_n dX8_eatsOf_12 rfl rfl ?_
      refine G_get (v := .ref 1) F_X8_69 dX8_eatsOf_13 rfl rfl ?_
      refine G_iload_n dX8_eatsOf_16 rfl rfl ?_
      obtain ⟨t2, ht2, hf⟩ := ob hf
      refine G_lald dX8_eatsOf_17 rfl ht2 ?_
      refine G_lconst 0 dX8_eatsOf_18 (by decide) ?_
      refine G_lcmp_le 41 dX8_eatsOf_19 dX8_eatsOf_20 (by decide) (fun h3 => ?_) (fun h3 => ?_)
      · replace hf := ob_t h3 hf
        exact g_X8_eatsOf_41 ih hf
      · replace hf := ob_f h3 hf
        refine G_aload_n dX8_eatsOf_23 rfl rfl ?_
        refine G_get (v := .ref 2) F_X8_13 dX8_eatsOf_24 rfl rfl ?_
        refine G_bipush 6 dX8_eatsOf_27 (by decide) ?_
        refine G_iload_n dX8_eatsOf_29 rfl rfl ?_
        refine G_imul dX8_eatsOf_30 ?_
        refine G_iload_n dX8_eatsOf_31 rfl rfl ?_
        refine G_iadd dX8_eatsOf_32 ?_
        obtain ⟨t4, ht4, hf⟩ := ob hf
        refine G_iald dX8_eatsOf_33 rfl ht4 ?_
        refine G_if_le 41 dX8_eatsOf_34 (by decide) (fun h5 => ?_) (fun h5 => ?_)
        · replace hf := ob_t h5 hf
          exact g_X8_eatsOf_41 ih hf
        · replace hf := ob_f h5 hf
          refine G_iconst 1 dX8_eatsOf_37 (by decide) ?_
          refine G_goto 42 dX8_eatsOf_38 (by decide) ?_
          exact g_X8_eatsOf_42 ih hf
def f_X8_eatsOf (N : Nat) (c_places : Int32) (c_leftOf : Nat → Int64) (c_wish : Nat → Int32) (a1 : Int32) : Option (Int32) :=
  f_X8_eatsOf_4 N c_places c_leftOf c_wish N a1 (-1 : Int32) 0
set_option maxHeartbeats 4000000 in
set_option maxRecDepth 100000 in
theorem c_X8_eatsOf {N : Nat} {c_places : Int32} {c_leftOf : Nat → Int64} {c_wish : Nat → Int32}  {u_askers : Int32} {u_above : Int64} {u_below : Int64} {u_full : Int32} {u_firsts : Int32} {u_freed : Int32} {u_whole : Int64} {a1 : Int32} {res : Int32} (hf : f_X8_eatsOf N c_places c_leftOf c_wish a1 = some res) : Con mu_X8_eatsOf [.ref 0, .int a1] (w_X8_eatsOf c_places c_leftOf c_wish u_askers u_above u_below u_full u_firsts u_freed u_whole) (some (.int res)) (w_X8_eatsOf c_places c_leftOf c_wish u_askers u_above u_below u_full u_firsts u_freed u_whole) := by
  refine Con.mk (show plainName RX8 = true by decide +kernel) (leb rfl) (fun κ ω A ad => ?_)
  change GG mu_X8_eatsOf κ ω A (QR κ ω A ad (some (.int res)) (w_X8_eatsOf c_places c_leftOf c_wish u_askers u_above u_below u_full u_firsts u_freed u_whole)) ad 0 0 0 (w_X8_eatsOf c_places c_leftOf c_wish u_askers u_above u_below u_full u_firsts u_freed u_whole) [some (.ref 0), some (.int a1), none, none, none] []
  refine G_iconst (-1 : Int32) dX8_eatsOf_0 (by decide) ?_
  refine G_istore_n dX8_eatsOf_1 rfl (ltb rfl) ?_
  change GG _ _ _ _ _ _ _ _ _ _ [some (.ref 0), some (.int a1), some (.int (-1 : Int32)), none, none] _
  refine G_iconst 0 dX8_eatsOf_2 (by decide) ?_
  refine G_istore_n dX8_eatsOf_3 rfl (ltb rfl) ?_
  change GG _ _ _ _ _ _ _ _ _ _ [some (.ref 0), some (.int a1), some (.int (-1 : Int32)), some (.int 0), none] _
  exact g_X8_eatsOf_4 N hf
set_option maxRecDepth 20000 in
theorem dX8_eaters_0 : decode cX8_eaters 0 = .ok (.iconst 0, 1) := by decide +kernel
set_option maxRecDepth 20000 in
theorem dX8_eaters_1 : decode cX8_eaters 1 = .ok (.istore_n 2, 1) := by decide +kernel
set_option maxRecDepth 20000 in
theorem dX8_eaters_2 : decode cX8_eaters 2 = .ok (.iconst 0, 1) := by decide +kernel
set_option maxRecDepth 20000 in
theorem dX8_eaters_3 : decode cX8_eaters 3 = .ok (.istore_n 3, 1) := by decide +kernel
set_option maxRecDepth 20000 in
theorem dX8_eaters_4 : decode cX8_eaters 4 = .ok (.iload_n 3, 1) := by decide +kernel
set_option maxRecDepth 20000 in
theorem dX8_eaters_5 : decode cX8_eaters 5 = .ok (.aload_n 0, 1) := by decide +kernel
set_option maxRecDepth 20000 in
theorem dX8_eaters_6 : decode cX8_eaters 6 = .ok (.getfield 89, 3) := by decide +kernel
set_option maxRecDepth 20000 in
theorem dX8_eaters_9 : decode cX8_eaters 9 = .ok (.if_icmp .ge 27, 3) := by decide +kernel
set_option maxRecDepth 20000 in
theorem dX8_eaters_12 : decode cX8_eaters 12 = .ok (.iload_n 2, 1) := by decide +kernel
set_option maxRecDepth 20000 in
theorem dX8_eaters_13 : decode cX8_eaters 13 = .ok (.aload_n 0, 1) := by decide +kernel
set_option maxRecDepth 20000 in
theorem dX8_eaters_14 : decode cX8_eaters 14 = .ok (.getfield 75, 3) := by decide +kernel
set_option maxRecDepth 20000 in
theorem dX8_eaters_17 : decode cX8_eaters 17 = .ok (.iload_n 3, 1) := by decide +kernel
set_option maxRecDepth 20000 in
theorem dX8_eaters_18 : decode cX8_eaters 18 = .ok (.iaload, 1) := by decide +kernel
set_option maxRecDepth 20000 in
theorem dX8_eaters_19 : decode cX8_eaters 19 = .ok (.iload_n 1, 1) := by decide +kernel
set_option maxRecDepth 20000 in
theorem dX8_eaters_20 : decode cX8_eaters 20 = .ok (.if_icmp .ne 7, 3) := by decide +kernel
set_option maxRecDepth 20000 in
theorem dX8_eaters_23 : decode cX8_eaters 23 = .ok (.iconst 1, 1) := by decide +kernel
set_option maxRecDepth 20000 in
theorem dX8_eaters_24 : decode cX8_eaters 24 = .ok (.goto 4, 3) := by decide +kernel
set_option maxRecDepth 20000 in
theorem dX8_eaters_27 : decode cX8_eaters 27 = .ok (.iconst 0, 1) := by decide +kernel
set_option maxRecDepth 20000 in
theorem dX8_eaters_28 : decode cX8_eaters 28 = .ok (.iadd, 1) := by decide +kernel
set_option maxRecDepth 20000 in
theorem dX8_eaters_29 : decode cX8_eaters 29 = .ok (.istore_n 2, 1) := by decide +kernel
set_option maxRecDepth 20000 in
theorem dX8_eaters_30 : decode cX8_eaters 30 = .ok (.iinc 3 1, 3) := by decide +kernel
set_option maxRecDepth 20000 in
theorem dX8_eaters_33 : decode cX8_eaters 33 = .ok (.goto (-29), 3) := by decide +kernel
set_option maxRecDepth 20000 in
theorem dX8_eaters_36 : decode cX8_eaters 36 = .ok (.iload_n 2, 1) := by decide +kernel
set_option maxRecDepth 20000 in
theorem dX8_eaters_37 : decode cX8_eaters 37 = .ok (.ireturn, 1) := by decide +kernel
def f_X8_eaters_4 (N : Nat) (c_askers : Int32) (c_eats : Nat → Int32) : Nat → Int32 → Int32 → Int32 → Option (Int32)
  | 0, _, _, _ => none
  | n + 1, v1, v2, v3 =>
    (if c_askers ≤ v3 then
      some v2
    else
      (rdI 8 c_eats v3).bind fun t2 =>
      (if t2 = v1 then
        f_X8_eaters_4 N c_askers c_eats n v1 (v2 + 1) (v3 + 1)
      else
        f_X8_eaters_4 N c_askers c_eats n v1 (v2 + 0) (v3 + 1)))
set_option maxHeartbeats 4000000 in
set_option maxRecDepth 100000 in
theorem g_X8_eaters_4 {κ : KC} {ω : KW} {A : Nat → Prop} {ad : Nat → Nat} {u_places : Int32} {u_above : Int64} {u_below : Int64} {u_full : Int32} {u_firsts : Int32} {u_freed : Int32} {u_whole : Int64} {N : Nat} {c_askers : Int32} {c_eats : Nat → Int32}  {res : Int32} : ∀ (n : Nat) {v1 : Int32} {v2 : Int32} {v3 : Int32}, f_X8_eaters_4 N c_askers c_eats n v1 v2 v3 = some res → GG mu_X8_eaters κ ω A (QR κ ω A ad (some (.int res)) (w_X8_eaters c_askers c_eats u_places u_above u_below u_full u_firsts u_freed u_whole)) ad 0 0 4 (w_X8_eaters c_askers c_eats u_places u_above u_below u_full u_firsts u_freed u_whole) [some (.ref 0), some (.int v1), some (.int v2), some (.int v3)] [] := by
  intro n
  induction n with
  | zero => intro v1 v2 v3 hf; exact ob_0 hf
  | succ n ih =>
    intro v1 v2 v3 hf
    refine G_iload_n dX8_eaters_4 rfl rfl ?_
    refine G_aload_n dX8_eaters_5 rfl rfl ?_
    refine G_get (v := .int c_askers) F_X8_89 dX8_eaters_6 rfl rfl ?_
    refine G_icmp_ge 36 dX8_eaters_9 (by decide) (fun h1 => ?_) (fun h1 => ?_)
    · replace hf := ob_t h1 hf
      refine G_iload_n dX8_eaters_36 rfl rfl ?_
      obtain rfl := os hf
      exact G_ireturn dX8_eaters_37 rfl
    · replace hf := ob_f h1 hf
      refine G_iload_n dX8_eaters_12 rfl rfl ?_
      refine G_aload_n dX8_eaters_13 rfl rfl ?_
      refine G_get (v := .ref 1) F_X8_75 dX8_eaters_14 rfl rfl ?_
      refine G_iload_n dX8_eaters_17 rfl rfl ?_
      obtain ⟨t2, ht2, hf⟩ := ob hf
      refine G_iald dX8_eaters_18 rfl ht2 ?_
      refine G_iload_n dX8_eaters_19 rfl rfl ?_
      refine G_icmp_ne 27 dX8_eaters_20 (by decide) (fun h3 => ?_) (fun h3 => ?_)
      · replace hf := ob_f h3 hf
        refine G_iconst 0 dX8_eaters_27 (by decide) ?_
        refine G_iadd dX8_eaters_28 ?_
        refine G_istore_n dX8_eaters_29 rfl (ltb rfl) ?_
        change GG _ _ _ _ _ _ _ _ _ _ [some (.ref 0), some (.int v1), some (.int (v2 + 0)), some (.int v3)] _
        refine G_iinc 1 dX8_eaters_30 (by decide) rfl (ltb rfl) ?_
        change GG _ _ _ _ _ _ _ _ _ _ [some (.ref 0), some (.int v1), some (.int (v2 + 0)), some (.int (v3 + 1))] _
        refine G_goto 4 dX8_eaters_33 (by decide) ?_
        exact ih hf
      · replace hf := ob_t h3 hf
        refine G_iconst 1 dX8_eaters_23 (by decide) ?_
        refine G_goto 28 dX8_eaters_24 (by decide) ?_
        refine G_iadd dX8_eaters_28 ?_
        refine G_istore_n dX8_eaters_29 rfl (ltb rfl) ?_
        change GG _ _ _ _ _ _ _ _ _ _ [some (.ref 0), some (.int v1), some (.int (v2 + 1)), some (.int v3)] _
        refine G_iinc 1 dX8_eaters_30 (by decide) rfl (ltb rfl) ?_
        change GG _ _ _ _ _ _ _ _ _ _ [some (.ref 0), some (.int v1), some (.int (v2 + 1)), some (.int (v3 + 1))] _
        refine G_goto 4 dX8_eaters_33 (by decide) ?_
        exact ih hf
def f_X8_eaters (N : Nat) (c_askers : Int32) (c_eats : Nat → Int32) (a1 : Int32) : Option (Int32) :=
  f_X8_eaters_4 N c_askers c_eats N a1 0 0
set_option maxHeartbeats 4000000 in
set_option maxRecDepth 100000 in
theorem c_X8_eaters {N : Nat} {c_askers : Int32} {c_eats : Nat → Int32}  {u_places : Int32} {u_above : Int64} {u_below : Int64} {u_full : Int32} {u_firsts : Int32} {u_freed : Int32} {u_whole : Int64} {a1 : Int32} {res : Int32} (hf : f_X8_eaters N c_askers c_eats a1 = some res) : Con mu_X8_eaters [.ref 0, .int a1] (w_X8_eaters c_askers c_eats u_places u_above u_below u_full u_firsts u_freed u_whole) (some (.int res)) (w_X8_eaters c_askers c_eats u_places u_above u_below u_full u_firsts u_freed u_whole) := by
  refine Con.mk (show plainName RX8 = true by decide +kernel) (leb rfl) (fun κ ω A ad => ?_)
  change GG mu_X8_eaters κ ω A (QR κ ω A ad (some (.int res)) (w_X8_eaters c_askers c_eats u_places u_above u_below u_full u_firsts u_freed u_whole)) ad 0 0 0 (w_X8_eaters c_askers c_eats u_places u_above u_below u_full u_firsts u_freed u_whole) [some (.ref 0), some (.int a1), none, none] []
  refine G_iconst 0 dX8_eaters_0 (by decide) ?_
  refine G_istore_n dX8_eaters_1 rfl (ltb rfl) ?_
  change GG _ _ _ _ _ _ _ _ _ _ [some (.ref 0), some (.int a1), some (.int 0), none] _
  refine G_iconst 0 dX8_eaters_2 (by decide) ?_
  refine G_istore_n dX8_eaters_3 rfl (ltb rfl) ?_
  change GG _ _ _ _ _ _ _ _ _ _ [some (.ref 0), some (.int a1), some (.int 0), some (.int 0)] _
  exact g_X8_eaters_4 N hf
set_option maxRecDepth 20000 in
theorem dX8_findShares_0 : decode cX8_findShares 0 = .ok (.aload_n 0, 1) := by decide +kernel
set_option maxRecDepth 20000 in
theorem dX8_findShares_1 : decode cX8_findShares 1 = .ok (.lconst 1, 1) := by decide +kernel
set_option maxRecDepth 20000 in
theorem dX8_findShares_2 : decode cX8_findShares 2 = .ok (.putfield 223, 3) := by decide +kernel
set_option maxRecDepth 20000 in
theorem dX8_findShares_5 : decode cX8_findShares 5 = .ok (.iconst 0, 1) := by decide +kernel
set_option maxRecDepth 20000 in
theorem dX8_findShares_6 : decode cX8_findShares 6 = .ok (.istore_n 1, 1) := by decide +kernel
set_option maxRecDepth 20000 in
theorem dX8_findShares_7 : decode cX8_findShares 7 = .ok (.iload_n 1, 1) := by decide +kernel
set_option maxRecDepth 20000 in
theorem dX8_findShares_8 : decode cX8_findShares 8 = .ok (.aload_n 0, 1) := by decide +kernel
set_option maxRecDepth 20000 in
theorem dX8_findShares_9 : decode cX8_findShares 9 = .ok (.getfield 97, 3) := by decide +kernel
set_option maxRecDepth 20000 in
theorem dX8_findShares_12 : decode cX8_findShares 12 = .ok (.if_icmp .ge 22, 3) := by decide +kernel
set_option maxRecDepth 20000 in
theorem dX8_findShares_15 : decode cX8_findShares 15 = .ok (.aload_n 0, 1) := by decide +kernel
set_option maxRecDepth 20000 in
theorem dX8_findShares_16 : decode cX8_findShares 16 = .ok (.getfield 69, 3) := by decide +kernel
set_option maxRecDepth 20000 in
theorem dX8_findShares_19 : decode cX8_findShares 19 = .ok (.iload_n 1, 1) := by decide +kernel
set_option maxRecDepth 20000 in
theorem dX8_findShares_20 : decode cX8_findShares 20 = .ok (.aload_n 0, 1) := by decide +kernel
set_option maxRecDepth 20000 in
theorem dX8_findShares_21 : decode cX8_findShares 21 = .ok (.getfield 7, 3) := by decide +kernel
set_option maxRecDepth 20000 in
theorem dX8_findShares_24 : decode cX8_findShares 24 = .ok (.iload_n 1, 1) := by decide +kernel
set_option maxRecDepth 20000 in
theorem dX8_findShares_25 : decode cX8_findShares 25 = .ok (.iaload, 1) := by decide +kernel
set_option maxRecDepth 20000 in
theorem dX8_findShares_26 : decode cX8_findShares 26 = .ok (.i2l, 1) := by decide +kernel
set_option maxRecDepth 20000 in
theorem dX8_findShares_27 : decode cX8_findShares 27 = .ok (.lastore, 1) := by decide +kernel
set_option maxRecDepth 20000 in
theorem dX8_findShares_28 : decode cX8_findShares 28 = .ok (.iinc 1 1, 3) := by decide +kernel
set_option maxRecDepth 20000 in
theorem dX8_findShares_31 : decode cX8_findShares 31 = .ok (.goto (-24), 3) := by decide +kernel
set_option maxRecDepth 20000 in
theorem dX8_findShares_34 : decode cX8_findShares 34 = .ok (.iconst 0, 1) := by decide +kernel
set_option maxRecDepth 20000 in
theorem dX8_findShares_35 : decode cX8_findShares 35 = .ok (.istore_n 1, 1) := by decide +kernel
set_option maxRecDepth 20000 in
theorem dX8_findShares_36 : decode cX8_findShares 36 = .ok (.iload_n 1, 1) := by decide +kernel
set_option maxRecDepth 20000 in
theorem dX8_findShares_37 : decode cX8_findShares 37 = .ok (.bipush 48, 2) := by decide +kernel
set_option maxRecDepth 20000 in
theorem dX8_findShares_39 : decode cX8_findShares 39 = .ok (.if_icmp .ge 16, 3) := by decide +kernel
set_option maxRecDepth 20000 in
theorem dX8_findShares_42 : decode cX8_findShares 42 = .ok (.aload_n 0, 1) := by decide +kernel
set_option maxRecDepth 20000 in
theorem dX8_findShares_43 : decode cX8_findShares 43 = .ok (.getfield 72, 3) := by decide +kernel
set_option maxRecDepth 20000 in
theorem dX8_findShares_46 : decode cX8_findShares 46 = .ok (.iload_n 1, 1) := by decide +kernel
set_option maxRecDepth 20000 in
theorem dX8_findShares_47 : decode cX8_findShares 47 = .ok (.lconst 0, 1) := by decide +kernel
set_option maxRecDepth 20000 in
theorem dX8_findShares_48 : decode cX8_findShares 48 = .ok (.lastore, 1) := by decide +kernel
set_option maxRecDepth 20000 in
theorem dX8_findShares_49 : decode cX8_findShares 49 = .ok (.iinc 1 1, 3) := by decide +kernel
set_option maxRecDepth 20000 in
theorem dX8_findShares_52 : decode cX8_findShares 52 = .ok (.goto (-16), 3) := by decide +kernel
set_option maxRecDepth 20000 in
theorem dX8_findShares_55 : decode cX8_findShares 55 = .ok (.lconst 1, 1) := by decide +kernel
set_option maxRecDepth 20000 in
theorem dX8_findShares_56 : decode cX8_findShares 56 = .ok (.lstore_n 1, 1) := by decide +kernel
set_option maxRecDepth 20000 in
theorem dX8_findShares_57 : decode cX8_findShares 57 = .ok (.lload_n 1, 1) := by decide +kernel
set_option maxRecDepth 20000 in
theorem dX8_findShares_58 : decode cX8_findShares 58 = .ok (.lconst 0, 1) := by decide +kernel
set_option maxRecDepth 20000 in
theorem dX8_findShares_59 : decode cX8_findShares 59 = .ok (.lcmp, 1) := by decide +kernel
set_option maxRecDepth 20000 in
theorem dX8_findShares_60 : decode cX8_findShares 60 = .ok (.ifCond .le 248, 3) := by decide +kernel
set_option maxRecDepth 20000 in
theorem dX8_findShares_63 : decode cX8_findShares 63 = .ok (.lload_n 1, 1) := by decide +kernel
set_option maxRecDepth 20000 in
theorem dX8_findShares_64 : decode cX8_findShares 64 = .ok (.lstore_n 3, 1) := by decide +kernel
set_option maxRecDepth 20000 in
theorem dX8_findShares_65 : decode cX8_findShares 65 = .ok (.lconst 1, 1) := by decide +kernel
set_option maxRecDepth 20000 in
theorem dX8_findShares_66 : decode cX8_findShares 66 = .ok (.lstore 5, 2) := by decide +kernel
set_option maxRecDepth 20000 in
theorem dX8_findShares_68 : decode cX8_findShares 68 = .ok (.iconst 0, 1) := by decide +kernel
set_option maxRecDepth 20000 in
theorem dX8_findShares_69 : decode cX8_findShares 69 = .ok (.istore 7, 2) := by decide +kernel
set_option maxRecDepth 20000 in
theorem dX8_findShares_71 : decode cX8_findShares 71 = .ok (.iload 7, 2) := by decide +kernel
set_option maxRecDepth 20000 in
theorem dX8_findShares_73 : decode cX8_findShares 73 = .ok (.aload_n 0, 1) := by decide +kernel
set_option maxRecDepth 20000 in
theorem dX8_findShares_74 : decode cX8_findShares 74 = .ok (.getfield 89, 3) := by decide +kernel
set_option maxRecDepth 20000 in
theorem dX8_findShares_77 : decode cX8_findShares 77 = .ok (.if_icmp .ge 22, 3) := by decide +kernel
set_option maxRecDepth 20000 in
theorem dX8_findShares_80 : decode cX8_findShares 80 = .ok (.aload_n 0, 1) := by decide +kernel
set_option maxRecDepth 20000 in
theorem dX8_findShares_81 : decode cX8_findShares 81 = .ok (.getfield 75, 3) := by decide +kernel
set_option maxRecDepth 20000 in
theorem dX8_findShares_84 : decode cX8_findShares 84 = .ok (.iload 7, 2) := by decide +kernel
set_option maxRecDepth 20000 in
theorem dX8_findShares_86 : decode cX8_findShares 86 = .ok (.aload_n 0, 1) := by decide +kernel
set_option maxRecDepth 20000 in
theorem dX8_findShares_87 : decode cX8_findShares 87 = .ok (.iload 7, 2) := by decide +kernel
set_option maxRecDepth 20000 in
theorem dX8_findShares_89 : decode cX8_findShares 89 = .ok (.invokevirtual 226, 3) := by decide +kernel
set_option maxRecDepth 20000 in
theorem dX8_findShares_92 : decode cX8_findShares 92 = .ok (.iastore, 1) := by decide +kernel
set_option maxRecDepth 20000 in
theorem dX8_findShares_93 : decode cX8_findShares 93 = .ok (.iinc 7 1, 3) := by decide +kernel
set_option maxRecDepth 20000 in
theorem dX8_findShares_96 : decode cX8_findShares 96 = .ok (.goto (-25), 3) := by decide +kernel
set_option maxRecDepth 20000 in
theorem dX8_findShares_99 : decode cX8_findShares 99 = .ok (.iconst 0, 1) := by decide +kernel
set_option maxRecDepth 20000 in
theorem dX8_findShares_100 : decode cX8_findShares 100 = .ok (.istore 7, 2) := by decide +kernel
set_option maxRecDepth 20000 in
theorem dX8_findShares_102 : decode cX8_findShares 102 = .ok (.iload 7, 2) := by decide +kernel
set_option maxRecDepth 20000 in
theorem dX8_findShares_104 : decode cX8_findShares 104 = .ok (.aload_n 0, 1) := by decide +kernel
set_option maxRecDepth 20000 in
theorem dX8_findShares_105 : decode cX8_findShares 105 = .ok (.getfield 97, 3) := by decide +kernel
set_option maxRecDepth 20000 in
theorem dX8_findShares_108 : decode cX8_findShares 108 = .ok (.if_icmp .ge 55, 3) := by decide +kernel
set_option maxRecDepth 20000 in
theorem dX8_findShares_111 : decode cX8_findShares 111 = .ok (.aload_n 0, 1) := by decide +kernel
set_option maxRecDepth 20000 in
theorem dX8_findShares_112 : decode cX8_findShares 112 = .ok (.iload 7, 2) := by decide +kernel
set_option maxRecDepth 20000 in
theorem dX8_findShares_114 : decode cX8_findShares 114 = .ok (.invokevirtual 229, 3) := by decide +kernel
set_option maxRecDepth 20000 in
theorem dX8_findShares_117 : decode cX8_findShares 117 = .ok (.i2l, 1) := by decide +kernel
set_option maxRecDepth 20000 in
theorem dX8_findShares_118 : decode cX8_findShares 118 = .ok (.lstore 8, 2) := by decide +kernel
set_option maxRecDepth 20000 in
theorem dX8_findShares_120 : decode cX8_findShares 120 = .ok (.lload 8, 2) := by decide +kernel
set_option maxRecDepth 20000 in
theorem dX8_findShares_122 : decode cX8_findShares 122 = .ok (.lconst 0, 1) := by decide +kernel
set_option maxRecDepth 20000 in
theorem dX8_findShares_123 : decode cX8_findShares 123 = .ok (.lcmp, 1) := by decide +kernel
set_option maxRecDepth 20000 in
theorem dX8_findShares_124 : decode cX8_findShares 124 = .ok (.ifCond .le 33, 3) := by decide +kernel
set_option maxRecDepth 20000 in
theorem dX8_findShares_127 : decode cX8_findShares 127 = .ok (.aload_n 0, 1) := by decide +kernel
set_option maxRecDepth 20000 in
theorem dX8_findShares_128 : decode cX8_findShares 128 = .ok (.getfield 69, 3) := by decide +kernel
set_option maxRecDepth 20000 in
theorem dX8_findShares_131 : decode cX8_findShares 131 = .ok (.iload 7, 2) := by decide +kernel
set_option maxRecDepth 20000 in
theorem dX8_findShares_133 : decode cX8_findShares 133 = .ok (.laload, 1) := by decide +kernel
set_option maxRecDepth 20000 in
theorem dX8_findShares_134 : decode cX8_findShares 134 = .ok (.lload 5, 2) := by decide +kernel
set_option maxRecDepth 20000 in
theorem dX8_findShares_136 : decode cX8_findShares 136 = .ok (.lmul, 1) := by decide +kernel
set_option maxRecDepth 20000 in
theorem dX8_findShares_137 : decode cX8_findShares 137 = .ok (.lload_n 3, 1) := by decide +kernel
set_option maxRecDepth 20000 in
theorem dX8_findShares_138 : decode cX8_findShares 138 = .ok (.lload 8, 2) := by decide +kernel
set_option maxRecDepth 20000 in
theorem dX8_findShares_140 : decode cX8_findShares 140 = .ok (.lmul, 1) := by decide +kernel
set_option maxRecDepth 20000 in
theorem dX8_findShares_141 : decode cX8_findShares 141 = .ok (.lcmp, 1) := by decide +kernel
set_option maxRecDepth 20000 in
theorem dX8_findShares_142 : decode cX8_findShares 142 = .ok (.ifCond .ge 15, 3) := by decide +kernel
set_option maxRecDepth 20000 in
theorem dX8_findShares_145 : decode cX8_findShares 145 = .ok (.aload_n 0, 1) := by decide +kernel
set_option maxRecDepth 20000 in
theorem dX8_findShares_146 : decode cX8_findShares 146 = .ok (.getfield 69, 3) := by decide +kernel
set_option maxRecDepth 20000 in
theorem dX8_findShares_149 : decode cX8_findShares 149 = .ok (.iload 7, 2) := by decide +kernel
set_option maxRecDepth 20000 in
theorem dX8_findShares_151 : decode cX8_findShares 151 = .ok (.laload, 1) := by decide +kernel
set_option maxRecDepth 20000 in
theorem dX8_findShares_152 : decode cX8_findShares 152 = .ok (.lstore_n 3, 1) := by decide +kernel
set_option maxRecDepth 20000 in
theorem dX8_findShares_153 : decode cX8_findShares 153 = .ok (.lload 8, 2) := by decide +kernel
set_option maxRecDepth 20000 in
theorem dX8_findShares_155 : decode cX8_findShares 155 = .ok (.lstore 5, 2) := by decide +kernel
set_option maxRecDepth 20000 in
theorem dX8_findShares_157 : decode cX8_findShares 157 = .ok (.iinc 7 1, 3) := by decide +kernel
set_option maxRecDepth 20000 in
theorem dX8_findShares_160 : decode cX8_findShares 160 = .ok (.goto (-58), 3) := by decide +kernel
set_option maxRecDepth 20000 in
theorem dX8_findShares_163 : decode cX8_findShares 163 = .ok (.aload_n 0, 1) := by decide +kernel
set_option maxRecDepth 20000 in
theorem dX8_findShares_164 : decode cX8_findShares 164 = .ok (.dup, 1) := by decide +kernel
set_option maxRecDepth 20000 in
theorem dX8_findShares_165 : decode cX8_findShares 165 = .ok (.getfield 223, 3) := by decide +kernel
set_option maxRecDepth 20000 in
theorem dX8_findShares_168 : decode cX8_findShares 168 = .ok (.lload 5, 2) := by decide +kernel
set_option maxRecDepth 20000 in
theorem dX8_findShares_170 : decode cX8_findShares 170 = .ok (.lmul, 1) := by decide +kernel
set_option maxRecDepth 20000 in
theorem dX8_findShares_171 : decode cX8_findShares 171 = .ok (.putfield 223, 3) := by decide +kernel
set_option maxRecDepth 20000 in
theorem dX8_findShares_174 : decode cX8_findShares 174 = .ok (.lload_n 1, 1) := by decide +kernel
set_option maxRecDepth 20000 in
theorem dX8_findShares_175 : decode cX8_findShares 175 = .ok (.lload 5, 2) := by decide +kernel
set_option maxRecDepth 20000 in
theorem dX8_findShares_177 : decode cX8_findShares 177 = .ok (.lmul, 1) := by decide +kernel
set_option maxRecDepth 20000 in
theorem dX8_findShares_178 : decode cX8_findShares 178 = .ok (.lload_n 3, 1) := by decide +kernel
set_option maxRecDepth 20000 in
theorem dX8_findShares_179 : decode cX8_findShares 179 = .ok (.lsub, 1) := by decide +kernel
set_option maxRecDepth 20000 in
theorem dX8_findShares_180 : decode cX8_findShares 180 = .ok (.lstore_n 1, 1) := by decide +kernel
set_option maxRecDepth 20000 in
theorem dX8_findShares_181 : decode cX8_findShares 181 = .ok (.iconst 0, 1) := by decide +kernel
set_option maxRecDepth 20000 in
theorem dX8_findShares_182 : decode cX8_findShares 182 = .ok (.istore 7, 2) := by decide +kernel
set_option maxRecDepth 20000 in
theorem dX8_findShares_184 : decode cX8_findShares 184 = .ok (.iload 7, 2) := by decide +kernel
set_option maxRecDepth 20000 in
theorem dX8_findShares_186 : decode cX8_findShares 186 = .ok (.aload_n 0, 1) := by decide +kernel
set_option maxRecDepth 20000 in
theorem dX8_findShares_187 : decode cX8_findShares 187 = .ok (.getfield 97, 3) := by decide +kernel
set_option maxRecDepth 20000 in
theorem dX8_findShares_190 : decode cX8_findShares 190 = .ok (.if_icmp .ge 36, 3) := by decide +kernel
set_option maxRecDepth 20000 in
theorem dX8_findShares_193 : decode cX8_findShares 193 = .ok (.aload_n 0, 1) := by decide +kernel
set_option maxRecDepth 20000 in
theorem dX8_findShares_194 : decode cX8_findShares 194 = .ok (.getfield 69, 3) := by decide +kernel
set_option maxRecDepth 20000 in
theorem dX8_findShares_197 : decode cX8_findShares 197 = .ok (.iload 7, 2) := by decide +kernel
set_option maxRecDepth 20000 in
theorem dX8_findShares_199 : decode cX8_findShares 199 = .ok (.aload_n 0, 1) := by decide +kernel
set_option maxRecDepth 20000 in
theorem dX8_findShares_200 : decode cX8_findShares 200 = .ok (.getfield 69, 3) := by decide +kernel
set_option maxRecDepth 20000 in
theorem dX8_findShares_203 : decode cX8_findShares 203 = .ok (.iload 7, 2) := by decide +kernel
set_option maxRecDepth 20000 in
theorem dX8_findShares_205 : decode cX8_findShares 205 = .ok (.laload, 1) := by decide +kernel
set_option maxRecDepth 20000 in
theorem dX8_findShares_206 : decode cX8_findShares 206 = .ok (.lload 5, 2) := by decide +kernel
set_option maxRecDepth 20000 in
theorem dX8_findShares_208 : decode cX8_findShares 208 = .ok (.lmul, 1) := by decide +kernel
set_option maxRecDepth 20000 in
theorem dX8_findShares_209 : decode cX8_findShares 209 = .ok (.aload_n 0, 1) := by decide +kernel
set_option maxRecDepth 20000 in
theorem dX8_findShares_210 : decode cX8_findShares 210 = .ok (.iload 7, 2) := by decide +kernel
set_option maxRecDepth 20000 in
theorem dX8_findShares_212 : decode cX8_findShares 212 = .ok (.invokevirtual 229, 3) := by decide +kernel
set_option maxRecDepth 20000 in
theorem dX8_findShares_215 : decode cX8_findShares 215 = .ok (.i2l, 1) := by decide +kernel
set_option maxRecDepth 20000 in
theorem dX8_findShares_216 : decode cX8_findShares 216 = .ok (.lload_n 3, 1) := by decide +kernel
set_option maxRecDepth 20000 in
theorem dX8_findShares_217 : decode cX8_findShares 217 = .ok (.lmul, 1) := by decide +kernel
set_option maxRecDepth 20000 in
theorem dX8_findShares_218 : decode cX8_findShares 218 = .ok (.lsub, 1) := by decide +kernel
set_option maxRecDepth 20000 in
theorem dX8_findShares_219 : decode cX8_findShares 219 = .ok (.lastore, 1) := by decide +kernel
set_option maxRecDepth 20000 in
theorem dX8_findShares_220 : decode cX8_findShares 220 = .ok (.iinc 7 1, 3) := by decide +kernel
set_option maxRecDepth 20000 in
theorem dX8_findShares_223 : decode cX8_findShares 223 = .ok (.goto (-39), 3) := by decide +kernel
set_option maxRecDepth 20000 in
theorem dX8_findShares_226 : decode cX8_findShares 226 = .ok (.iconst 0, 1) := by decide +kernel
set_option maxRecDepth 20000 in
theorem dX8_findShares_227 : decode cX8_findShares 227 = .ok (.istore 7, 2) := by decide +kernel
set_option maxRecDepth 20000 in
theorem dX8_findShares_229 : decode cX8_findShares 229 = .ok (.iload 7, 2) := by decide +kernel
set_option maxRecDepth 20000 in
theorem dX8_findShares_231 : decode cX8_findShares 231 = .ok (.bipush 48, 2) := by decide +kernel
set_option maxRecDepth 20000 in
theorem dX8_findShares_233 : decode cX8_findShares 233 = .ok (.if_icmp .ge 21, 3) := by decide +kernel
set_option maxRecDepth 20000 in
theorem dX8_findShares_236 : decode cX8_findShares 236 = .ok (.aload_n 0, 1) := by decide +kernel
set_option maxRecDepth 20000 in
theorem dX8_findShares_237 : decode cX8_findShares 237 = .ok (.getfield 72, 3) := by decide +kernel
set_option maxRecDepth 20000 in
theorem dX8_findShares_240 : decode cX8_findShares 240 = .ok (.iload 7, 2) := by decide +kernel
set_option maxRecDepth 20000 in
theorem dX8_findShares_242 : decode cX8_findShares 242 = .ok (.dup2, 1) := by decide +kernel
set_option maxRecDepth 20000 in
theorem dX8_findShares_243 : decode cX8_findShares 243 = .ok (.laload, 1) := by decide +kernel
set_option maxRecDepth 20000 in
theorem dX8_findShares_244 : decode cX8_findShares 244 = .ok (.lload 5, 2) := by decide +kernel
set_option maxRecDepth 20000 in
theorem dX8_findShares_246 : decode cX8_findShares 246 = .ok (.lmul, 1) := by decide +kernel
set_option maxRecDepth 20000 in
theorem dX8_findShares_247 : decode cX8_findShares 247 = .ok (.lastore, 1) := by decide +kernel
set_option maxRecDepth 20000 in
theorem dX8_findShares_248 : decode cX8_findShares 248 = .ok (.iinc 7 1, 3) := by decide +kernel
set_option maxRecDepth 20000 in
theorem dX8_findShares_251 : decode cX8_findShares 251 = .ok (.goto (-22), 3) := by decide +kernel
set_option maxRecDepth 20000 in
theorem dX8_findShares_254 : decode cX8_findShares 254 = .ok (.iconst 0, 1) := by decide +kernel
set_option maxRecDepth 20000 in
theorem dX8_findShares_255 : decode cX8_findShares 255 = .ok (.istore 7, 2) := by decide +kernel
set_option maxRecDepth 20000 in
theorem dX8_findShares_257 : decode cX8_findShares 257 = .ok (.iload 7, 2) := by decide +kernel
set_option maxRecDepth 20000 in
theorem dX8_findShares_259 : decode cX8_findShares 259 = .ok (.aload_n 0, 1) := by decide +kernel
set_option maxRecDepth 20000 in
theorem dX8_findShares_260 : decode cX8_findShares 260 = .ok (.getfield 89, 3) := by decide +kernel
set_option maxRecDepth 20000 in
theorem dX8_findShares_263 : decode cX8_findShares 263 = .ok (.if_icmp .ge 42, 3) := by decide +kernel
set_option maxRecDepth 20000 in
theorem dX8_findShares_266 : decode cX8_findShares 266 = .ok (.aload_n 0, 1) := by decide +kernel
set_option maxRecDepth 20000 in
theorem dX8_findShares_267 : decode cX8_findShares 267 = .ok (.getfield 75, 3) := by decide +kernel
set_option maxRecDepth 20000 in
theorem dX8_findShares_270 : decode cX8_findShares 270 = .ok (.iload 7, 2) := by decide +kernel
set_option maxRecDepth 20000 in
theorem dX8_findShares_272 : decode cX8_findShares 272 = .ok (.iaload, 1) := by decide +kernel
set_option maxRecDepth 20000 in
theorem dX8_findShares_273 : decode cX8_findShares 273 = .ok (.iconst (-1), 1) := by decide +kernel
set_option maxRecDepth 20000 in
theorem dX8_findShares_274 : decode cX8_findShares 274 = .ok (.if_icmp .eq 25, 3) := by decide +kernel
set_option maxRecDepth 20000 in
theorem dX8_findShares_277 : decode cX8_findShares 277 = .ok (.aload_n 0, 1) := by decide +kernel
set_option maxRecDepth 20000 in
theorem dX8_findShares_278 : decode cX8_findShares 278 = .ok (.getfield 72, 3) := by decide +kernel
set_option maxRecDepth 20000 in
theorem dX8_findShares_281 : decode cX8_findShares 281 = .ok (.bipush 6, 2) := by decide +kernel
set_option maxRecDepth 20000 in
theorem dX8_findShares_283 : decode cX8_findShares 283 = .ok (.iload 7, 2) := by decide +kernel
set_option maxRecDepth 20000 in
theorem dX8_findShares_285 : decode cX8_findShares 285 = .ok (.imul, 1) := by decide +kernel
set_option maxRecDepth 20000 in
theorem dX8_findShares_286 : decode cX8_findShares 286 = .ok (.aload_n 0, 1) := by decide +kernel
set_option maxRecDepth 20000 in
theorem dX8_findShares_287 : decode cX8_findShares 287 = .ok (.getfield 75, 3) := by decide +kernel
set_option maxRecDepth 20000 in
theorem dX8_findShares_290 : decode cX8_findShares 290 = .ok (.iload 7, 2) := by decide +kernel
set_option maxRecDepth 20000 in
theorem dX8_findShares_292 : decode cX8_findShares 292 = .ok (.iaload, 1) := by decide +kernel
set_option maxRecDepth 20000 in
theorem dX8_findShares_293 : decode cX8_findShares 293 = .ok (.iadd, 1) := by decide +kernel
set_option maxRecDepth 20000 in
theorem dX8_findShares_294 : decode cX8_findShares 294 = .ok (.dup2, 1) := by decide +kernel
set_option maxRecDepth 20000 in
theorem dX8_findShares_295 : decode cX8_findShares 295 = .ok (.laload, 1) := by decide +kernel
set_option maxRecDepth 20000 in
theorem dX8_findShares_296 : decode cX8_findShares 296 = .ok (.lload_n 3, 1) := by decide +kernel
set_option maxRecDepth 20000 in
theorem dX8_findShares_297 : decode cX8_findShares 297 = .ok (.ladd, 1) := by decide +kernel
set_option maxRecDepth 20000 in
theorem dX8_findShares_298 : decode cX8_findShares 298 = .ok (.lastore, 1) := by decide +kernel
set_option maxRecDepth 20000 in
theorem dX8_findShares_299 : decode cX8_findShares 299 = .ok (.iinc 7 1, 3) := by decide +kernel
set_option maxRecDepth 20000 in
theorem dX8_findShares_302 : decode cX8_findShares 302 = .ok (.goto (-45), 3) := by decide +kernel
set_option maxRecDepth 20000 in
theorem dX8_findShares_305 : decode cX8_findShares 305 = .ok (.goto (-248), 3) := by decide +kernel
set_option maxRecDepth 20000 in
theorem dX8_findShares_308 : decode cX8_findShares 308 = .ok (.return_, 1) := by decide +kernel
def f_X8_findShares_257 (N : Nat) (c_askers : Int32) (c_places : Int32) (c_seats : Nat → Int32) (c_wish : Nat → Int32) (k57 : Int64 → (Nat → Int64) → (Nat → Int32) → (Nat → Int64) → Int64 → Option (Int64 × (Nat → Int64) × (Nat → Int32) × (Nat → Int64))) : Nat → Int64 → (Nat → Int64) → (Nat → Int32) → (Nat → Int64) → Int64 → Int64 → Int32 → Option (Int64 × (Nat → Int64) × (Nat → Int32) × (Nat → Int64))
  | 0, _, _, _, _, _, _, _ => none
  | n + 1, c_whole, c_ate, c_eats, c_leftOf, v1, v3, v7 =>
    (if c_askers ≤ v7 then
      k57 c_whole c_ate c_eats c_leftOf v1
    else
      (rdI 8 c_eats v7).bind fun t2 =>
      (if t2 = (-1 : Int32) then
        f_X8_findShares_257 N c_askers c_places c_seats c_wish k57 n c_whole c_ate c_eats c_leftOf v1 v3 (v7 + 1)
      else
        (rdI 8 c_eats v7).bind fun t4 =>
        (rdL 48 c_ate ((6 * v7) + t4)).bind fun t5 =>
        (wrL 48 c_ate ((6 * v7) + t4) (t5 + v3)).bind fun t6 =>
        f_X8_findShares_257 N c_askers c_places c_seats c_wish k57 n c_whole t6 c_eats c_leftOf v1 v3 (v7 + 1)))
set_option maxHeartbeats 4000000 in
set_option maxRecDepth 100000 in
theorem g_X8_findShares_257 {κ : KC} {ω : KW} {A : Nat → Prop} {ad : Nat → Nat} {u_above : Int64} {u_below : Int64} {u_full : Int32} {u_firsts : Int32} {u_freed : Int32} {N : Nat} {c_askers : Int32} {c_places : Int32} {c_seats : Nat → Int32} {c_wish : Nat → Int32}  {k57 : Int64 → (Nat → Int64) → (Nat → Int32) → (Nat → Int64) → Int64 → Option (Int64 × (Nat → Int64) × (Nat → Int32) × (Nat → Int64))} {res : Int64 × (Nat → Int64) × (Nat → Int32) × (Nat → Int64)} (hk57 : ∀ {c_whole : Int64} {c_ate : Nat → Int64} {c_eats : Nat → Int32} {c_leftOf : Nat → Int64} {v1 : Int64}, k57 c_whole c_ate c_eats c_leftOf v1 = some res → GG mu_X8_findShares κ ω A (QR κ ω A ad (none) (w_X8_findShares c_askers c_places res.1 res.2.1 res.2.2.1 res.2.2.2 c_seats c_wish u_above u_below u_full u_firsts u_freed)) ad 0 0 57 (w_X8_findShares c_askers c_places c_whole c_ate c_eats c_leftOf c_seats c_wish u_above u_below u_full u_firsts u_freed) [some (.ref 0), some (.long v1), none, none, none, none, none, none, none, none] []) : ∀ (n : Nat) {c_whole : Int64} {c_ate : Nat → Int64} {c_eats : Nat → Int32} {c_leftOf : Nat → Int64} {v1 : Int64} {v3 : Int64} {v7 : Int32}, f_X8_findShares_257 N c_askers c_places c_seats c_wish k57 n c_whole c_ate c_eats c_leftOf v1 v3 v7 = some res → GG mu_X8_findShares κ ω A (QR κ ω A ad (none) (w_X8_findShares c_askers c_places res.1 res.2.1 res.2.2.1 res.2.2.2 c_seats c_wish u_above u_below u_full u_firsts u_freed)) ad 0 0 257 (w_X8_findShares c_askers c_places c_whole c_ate c_eats c_leftOf c_seats c_wish u_above u_below u_full u_firsts u_freed) [some (.ref 0), some (.long v1), none, some (.long v3), none, none, none, some (.int v7), none, none] [] := by
  intro n
  induction n with
  | zero => intro c_whole c_ate c_eats c_leftOf v1 v3 v7 hf; exact ob_0 hf
  | succ n ih =>
    intro c_whole c_ate c_eats c_leftOf v1 v3 v7 hf
    refine G_iload dX8_findShares_257 rfl ?_
    refine G_aload_n dX8_findShares_259 rfl rfl ?_
    refine G_get (v := .int c_askers) F_X8_89 dX8_findShares_260 rfl rfl ?_
    refine G_icmp_ge 305 dX8_findShares_263 (by decide) (fun h1 => ?_) (fun h1 => ?_)
    · replace hf := ob_t h1 hf
      refine G_goto 57 dX8_findShares_305 (by decide) ?_
      refine GG.sb (lv2 := [some (.ref 0), some (.long v1), none, none, none, none, none, none, none, none]) ?_ (lvS_v rfl (lvS_v rfl (lvS_n (lvS_n (lvS_n (lvS_n (lvS_n (lvS_n (lvS_n (lvS_n (lvS_e)))))))))))
      exact hk57 hf
    · replace hf := ob_f h1 hf
      refine G_aload_n dX8_findShares_266 rfl rfl ?_
      refine G_get (v := .ref 2) F_X8_75 dX8_findShares_267 rfl rfl ?_
      refine G_iload dX8_findShares_270 rfl ?_
      obtain ⟨t2, ht2, hf⟩ := ob hf
      refine G_iald dX8_findShares_272 rfl ht2 ?_
      refine G_iconst (-1 : Int32) dX8_findShares_273 (by decide) ?_
      refine G_icmp_eq 299 dX8_findShares_274 (by decide) (fun h3 => ?_) (fun h3 => ?_)
      · replace hf := ob_t h3 hf
        refine G_iinc 1 dX8_findShares_299 (by decide) rfl (ltb rfl) ?_
        change GG _ _ _ _ _ _ _ _ _ _ [some (.ref 0), some (.long v1), none, some (.long v3), none, none, none, some (.int (v7 + 1)), none, none] _
        refine G_goto 257 dX8_findShares_302 (by decide) ?_
        exact ih hf
      · replace hf := ob_f h3 hf
        refine G_aload_n dX8_findShares_277 rfl rfl ?_
        refine G_get (v := .ref 1) F_X8_72 dX8_findShares_278 rfl rfl ?_
        refine G_bipush 6 dX8_findShares_281 (by decide) ?_
        refine G_iload dX8_findShares_283 rfl ?_
        refine G_imul dX8_findShares_285 ?_
        refine G_aload_n dX8_findShares_286 rfl rfl ?_
        refine G_get (v := .ref 2) F_X8_75 dX8_findShares_287 rfl rfl ?_
        refine G_iload dX8_findShares_290 rfl ?_
        obtain ⟨t4, ht4, hf⟩ := ob hf
        refine G_iald dX8_findShares_292 rfl ht4 ?_
        refine G_iadd dX8_findShares_293 ?_
        refine G_dup2 dX8_findShares_294 rfl rfl ?_
        obtain ⟨t5, ht5, hf⟩ := ob hf
        refine G_lald dX8_findShares_295 rfl ht5 ?_
        refine G_lload_n dX8_findShares_296 rfl rfl ?_
        refine G_ladd dX8_findShares_297 ?_
        obtain ⟨t6, ht6, hf⟩ := ob hf
        refine G_last (w2 := (w_X8_findShares c_askers c_places c_whole t6 c_eats c_leftOf c_seats c_wish u_above u_below u_full u_firsts u_freed)) dX8_findShares_298 rfl ht6 rfl ?_
        refine G_iinc 1 dX8_findShares_299 (by decide) rfl (ltb rfl) ?_
        change GG _ _ _ _ _ _ _ _ _ _ [some (.ref 0), some (.long v1), none, some (.long v3), none, none, none, some (.int (v7 + 1)), none, none] _
        refine G_goto 257 dX8_findShares_302 (by decide) ?_
        exact ih hf
def f_X8_findShares_229 (N : Nat) (c_askers : Int32) (c_places : Int32) (c_seats : Nat → Int32) (c_wish : Nat → Int32) (k57 : Int64 → (Nat → Int64) → (Nat → Int32) → (Nat → Int64) → Int64 → Option (Int64 × (Nat → Int64) × (Nat → Int32) × (Nat → Int64))) : Nat → Int64 → (Nat → Int64) → (Nat → Int32) → (Nat → Int64) → Int64 → Int64 → Int64 → Int32 → Option (Int64 × (Nat → Int64) × (Nat → Int32) × (Nat → Int64))
  | 0, _, _, _, _, _, _, _, _ => none
  | n + 1, c_whole, c_ate, c_eats, c_leftOf, v1, v3, v5, v7 =>
    (if 48 ≤ v7 then
      f_X8_findShares_257 N c_askers c_places c_seats c_wish k57 N c_whole c_ate c_eats c_leftOf v1 v3 0
    else
      (rdL 48 c_ate v7).bind fun t2 =>
      (wrL 48 c_ate v7 (t2 * v5)).bind fun t3 =>
      f_X8_findShares_229 N c_askers c_places c_seats c_wish k57 n c_whole t3 c_eats c_leftOf v1 v3 v5 (v7 + 1))
set_option maxHeartbeats 4000000 in
set_option maxRecDepth 100000 in
theorem g_X8_findShares_229 {κ : KC} {ω : KW} {A : Nat → Prop} {ad : Nat → Nat} {u_above : Int64} {u_below : Int64} {u_full : Int32} {u_firsts : Int32} {u_freed : Int32} {N : Nat} {c_askers : Int32} {c_places : Int32} {c_seats : Nat → Int32} {c_wish : Nat → Int32}  {k57 : Int64 → (Nat → Int64) → (Nat → Int32) → (Nat → Int64) → Int64 → Option (Int64 × (Nat → Int64) × (Nat → Int32) × (Nat → Int64))} {res : Int64 × (Nat → Int64) × (Nat → Int32) × (Nat → Int64)} (hk57 : ∀ {c_whole : Int64} {c_ate : Nat → Int64} {c_eats : Nat → Int32} {c_leftOf : Nat → Int64} {v1 : Int64}, k57 c_whole c_ate c_eats c_leftOf v1 = some res → GG mu_X8_findShares κ ω A (QR κ ω A ad (none) (w_X8_findShares c_askers c_places res.1 res.2.1 res.2.2.1 res.2.2.2 c_seats c_wish u_above u_below u_full u_firsts u_freed)) ad 0 0 57 (w_X8_findShares c_askers c_places c_whole c_ate c_eats c_leftOf c_seats c_wish u_above u_below u_full u_firsts u_freed) [some (.ref 0), some (.long v1), none, none, none, none, none, none, none, none] []) : ∀ (n : Nat) {c_whole : Int64} {c_ate : Nat → Int64} {c_eats : Nat → Int32} {c_leftOf : Nat → Int64} {v1 : Int64} {v3 : Int64} {v5 : Int64} {v7 : Int32}, f_X8_findShares_229 N c_askers c_places c_seats c_wish k57 n c_whole c_ate c_eats c_leftOf v1 v3 v5 v7 = some res → GG mu_X8_findShares κ ω A (QR κ ω A ad (none) (w_X8_findShares c_askers c_places res.1 res.2.1 res.2.2.1 res.2.2.2 c_seats c_wish u_above u_below u_full u_firsts u_freed)) ad 0 0 229 (w_X8_findShares c_askers c_places c_whole c_ate c_eats c_leftOf c_seats c_wish u_above u_below u_full u_firsts u_freed) [some (.ref 0), some (.long v1), none, some (.long v3), none, some (.long v5), none, some (.int v7), none, none] [] := by
  intro n
  induction n with
  | zero => intro c_whole c_ate c_eats c_leftOf v1 v3 v5 v7 hf; exact ob_0 hf
  | succ n ih =>
    intro c_whole c_ate c_eats c_leftOf v1 v3 v5 v7 hf
    refine G_iload dX8_findShares_229 rfl ?_
    refine G_bipush 48 dX8_findShares_231 (by decide) ?_
    refine G_icmp_ge 254 dX8_findShares_233 (by decide) (fun h1 => ?_) (fun h1 => ?_)
    · replace hf := ob_t h1 hf
      refine G_iconst 0 dX8_findShares_254 (by decide) ?_
      refine G_istore dX8_findShares_255 (ltb rfl) ?_
      change GG _ _ _ _ _ _ _ _ _ _ [some (.ref 0), some (.long v1), none, some (.long v3), none, some (.long v5), none, some (.int 0), none, none] _
      refine GG.sb (lv2 := [some (.ref 0), some (.long v1), none, some (.long v3), none, none, none, some (.int 0), none, none]) ?_ (lvS_v rfl (lvS_v rfl (lvS_n (lvS_v rfl (lvS_n (lvS_n (lvS_n (lvS_v rfl (lvS_n (lvS_n (lvS_e)))))))))))
      exact g_X8_findShares_257 hk57 N hf
    · replace hf := ob_f h1 hf
      refine G_aload_n dX8_findShares_236 rfl rfl ?_
      refine G_get (v := .ref 1) F_X8_72 dX8_findShares_237 rfl rfl ?_
      refine G_iload dX8_findShares_240 rfl ?_
      refine G_dup2 dX8_findShares_242 rfl rfl ?_
      obtain ⟨t2, ht2, hf⟩ := ob hf
      refine G_lald dX8_findShares_243 rfl ht2 ?_
      refine G_lload dX8_findShares_244 rfl ?_
      refine G_lmul dX8_findShares_246 ?_
      obtain ⟨t3, ht3, hf⟩ := ob hf
      refine G_last (w2 := (w_X8_findShares c_askers c_places c_whole t3 c_eats c_leftOf c_seats c_wish u_above u_below u_full u_firsts u_freed)) dX8_findShares_247 rfl ht3 rfl ?_
      refine G_iinc 1 dX8_findShares_248 (by decide) rfl (ltb rfl) ?_
      change GG _ _ _ _ _ _ _ _ _ _ [some (.ref 0), some (.long v1), none, some (.long v3), none, some (.long v5), none, some (.int (v7 + 1)), none, none] _
      refine G_goto 229 dX8_findShares_251 (by decide) ?_
      exact ih hf
def f_X8_findShares_184 (N : Nat) (c_askers : Int32) (c_places : Int32) (c_seats : Nat → Int32) (c_wish : Nat → Int32) (k57 : Int64 → (Nat → Int64) → (Nat → Int32) → (Nat → Int64) → Int64 → Option (Int64 × (Nat → Int64) × (Nat → Int32) × (Nat → Int64))) : Nat → Int64 → (Nat → Int64) → (Nat → Int32) → (Nat → Int64) → Int64 → Int64 → Int64 → Int32 → Option (Int64 × (Nat → Int64) × (Nat → Int32) × (Nat → Int64))
  | 0, _, _, _, _, _, _, _, _ => none
  | n + 1, c_whole, c_ate, c_eats, c_leftOf, v1, v3, v5, v7 =>
    (if c_places ≤ v7 then
      f_X8_findShares_229 N c_askers c_places c_seats c_wish k57 N c_whole c_ate c_eats c_leftOf v1 v3 v5 0
    else
      (rdL 6 c_leftOf v7).bind fun t2 =>
      (f_X8_eaters N c_askers c_eats v7).bind fun r3 =>
      (wrL 6 c_leftOf v7 ((t2 * v5) - (r3.toInt64 * v3))).bind fun t5 =>
      f_X8_findShares_184 N c_askers c_places c_seats c_wish k57 n c_whole c_ate c_eats t5 v1 v3 v5 (v7 + 1))
set_option maxHeartbeats 4000000 in
set_option maxRecDepth 100000 in
theorem g_X8_findShares_184 {κ : KC} {ω : KW} {A : Nat → Prop} {ad : Nat → Nat} {u_above : Int64} {u_below : Int64} {u_full : Int32} {u_firsts : Int32} {u_freed : Int32} {N : Nat} {c_askers : Int32} {c_places : Int32} {c_seats : Nat → Int32} {c_wish : Nat → Int32}  {k57 : Int64 → (Nat → Int64) → (Nat → Int32) → (Nat → Int64) → Int64 → Option (Int64 × (Nat → Int64) × (Nat → Int32) × (Nat → Int64))} {res : Int64 × (Nat → Int64) × (Nat → Int32) × (Nat → Int64)} (hk57 : ∀ {c_whole : Int64} {c_ate : Nat → Int64} {c_eats : Nat → Int32} {c_leftOf : Nat → Int64} {v1 : Int64}, k57 c_whole c_ate c_eats c_leftOf v1 = some res → GG mu_X8_findShares κ ω A (QR κ ω A ad (none) (w_X8_findShares c_askers c_places res.1 res.2.1 res.2.2.1 res.2.2.2 c_seats c_wish u_above u_below u_full u_firsts u_freed)) ad 0 0 57 (w_X8_findShares c_askers c_places c_whole c_ate c_eats c_leftOf c_seats c_wish u_above u_below u_full u_firsts u_freed) [some (.ref 0), some (.long v1), none, none, none, none, none, none, none, none] []) : ∀ (n : Nat) {c_whole : Int64} {c_ate : Nat → Int64} {c_eats : Nat → Int32} {c_leftOf : Nat → Int64} {v1 : Int64} {v3 : Int64} {v5 : Int64} {v7 : Int32}, f_X8_findShares_184 N c_askers c_places c_seats c_wish k57 n c_whole c_ate c_eats c_leftOf v1 v3 v5 v7 = some res → GG mu_X8_findShares κ ω A (QR κ ω A ad (none) (w_X8_findShares c_askers c_places res.1 res.2.1 res.2.2.1 res.2.2.2 c_seats c_wish u_above u_below u_full u_firsts u_freed)) ad 0 0 184 (w_X8_findShares c_askers c_places c_whole c_ate c_eats c_leftOf c_seats c_wish u_above u_below u_full u_firsts u_freed) [some (.ref 0), some (.long v1), none, some (.long v3), none, some (.long v5), none, some (.int v7), none, none] [] := by
  intro n
  induction n with
  | zero => intro c_whole c_ate c_eats c_leftOf v1 v3 v5 v7 hf; exact ob_0 hf
  | succ n ih =>
    intro c_whole c_ate c_eats c_leftOf v1 v3 v5 v7 hf
    refine G_iload dX8_findShares_184 rfl ?_
    refine G_aload_n dX8_findShares_186 rfl rfl ?_
    refine G_get (v := .int c_places) F_X8_97 dX8_findShares_187 rfl rfl ?_
    refine G_icmp_ge 226 dX8_findShares_190 (by decide) (fun h1 => ?_) (fun h1 => ?_)
    · replace hf := ob_t h1 hf
      refine G_iconst 0 dX8_findShares_226 (by decide) ?_
      refine G_istore dX8_findShares_227 (ltb rfl) ?_
      change GG _ _ _ _ _ _ _ _ _ _ [some (.ref 0), some (.long v1), none, some (.long v3), none, some (.long v5), none, some (.int 0), none, none] _
      exact g_X8_findShares_229 hk57 N hf
    · replace hf := ob_f h1 hf
      refine G_aload_n dX8_findShares_193 rfl rfl ?_
      refine G_get (v := .ref 3) F_X8_69 dX8_findShares_194 rfl rfl ?_
      refine G_iload dX8_findShares_197 rfl ?_
      refine G_aload_n dX8_findShares_199 rfl rfl ?_
      refine G_get (v := .ref 3) F_X8_69 dX8_findShares_200 rfl rfl ?_
      refine G_iload dX8_findShares_203 rfl ?_
      obtain ⟨t2, ht2, hf⟩ := ob hf
      refine G_lald dX8_findShares_205 rfl ht2 ?_
      refine G_lload dX8_findShares_206 rfl ?_
      refine G_lmul dX8_findShares_208 ?_
      refine G_aload_n dX8_findShares_209 rfl rfl ?_
      refine G_iload dX8_findShares_210 rfl ?_
      obtain ⟨r3, hc4, hf⟩ := ob hf
      refine G_callV (μ2 := mu_X8_eaters) (As := [.int v7]) (w2 := (w_X8_findShares c_askers c_places c_whole c_ate c_eats c_leftOf c_seats c_wish u_above u_below u_full u_firsts u_freed)) (wc := (w_X8_eaters c_askers c_eats c_places u_above u_below u_full u_firsts u_freed c_whole)) (wc2 := (w_X8_eaters c_askers c_eats c_places u_above u_below u_full u_firsts u_freed c_whole)) (rest := [.long (t2 * v5), .int v7, .ref 3]) (rv := [.int r3]) [0, 2] [4, 5, 1000, 1001, 1002, 1003, 1004, 1005, 1006, 1007, 1008, 1009, 1010, 1011, 1012, 1013, 1014, 1015, 3, 1] [1, 3, 4, 5] [4, 0, 5, 1, 2, 3] (c_X8_eaters hc4) cw_X8_eaters m_X8_229 dX8_findShares_212 rfl ⟨leb rfl, leb rfl⟩ ⟨rfl, rfl⟩ rfl ⟨_, rfl, rfl⟩ (Fit.mk rfl rfl rfl) rfl (leb rfl) (ROsub.nil rfl rfl) rfl ?_
      change GG _ _ _ _ _ _ _ _ _ (w_X8_findShares c_askers c_places c_whole c_ate c_eats c_leftOf c_seats c_wish u_above u_below u_full u_firsts u_freed) [some (.ref 0), some (.long v1), none, some (.long v3), none, some (.long v5), none, some (.int v7), none, none] [.int r3, .long (t2 * v5), .int v7, .ref 3]
      refine G_i2l dX8_findShares_215 ?_
      refine G_lload_n dX8_findShares_216 rfl rfl ?_
      refine G_lmul dX8_findShares_217 ?_
      refine G_lsub dX8_findShares_218 ?_
      obtain ⟨t5, ht5, hf⟩ := ob hf
      refine G_last (w2 := (w_X8_findShares c_askers c_places c_whole c_ate c_eats t5 c_seats c_wish u_above u_below u_full u_firsts u_freed)) dX8_findShares_219 rfl ht5 rfl ?_
      refine G_iinc 1 dX8_findShares_220 (by decide) rfl (ltb rfl) ?_
      change GG _ _ _ _ _ _ _ _ _ _ [some (.ref 0), some (.long v1), none, some (.long v3), none, some (.long v5), none, some (.int (v7 + 1)), none, none] _
      refine G_goto 184 dX8_findShares_223 (by decide) ?_
      exact ih hf
def f_X8_findShares_102 (N : Nat) (c_askers : Int32) (c_places : Int32) (c_seats : Nat → Int32) (c_wish : Nat → Int32) (k57 : Int64 → (Nat → Int64) → (Nat → Int32) → (Nat → Int64) → Int64 → Option (Int64 × (Nat → Int64) × (Nat → Int32) × (Nat → Int64))) : Nat → Int64 → (Nat → Int64) → (Nat → Int32) → (Nat → Int64) → Int64 → Int64 → Int64 → Int32 → Option (Int64 × (Nat → Int64) × (Nat → Int32) × (Nat → Int64))
  | 0, _, _, _, _, _, _, _, _ => none
  | n + 1, c_whole, c_ate, c_eats, c_leftOf, v1, v3, v5, v7 =>
    (if c_places ≤ v7 then
      f_X8_findShares_184 N c_askers c_places c_seats c_wish k57 N (c_whole * v5) c_ate c_eats c_leftOf ((v1 * v5) - v3) v3 v5 0
    else
      (f_X8_eaters N c_askers c_eats v7).bind fun r2 =>
      (if r2.toInt64 ≤ 0 then
        f_X8_findShares_102 N c_askers c_places c_seats c_wish k57 n c_whole c_ate c_eats c_leftOf v1 v3 v5 (v7 + 1)
      else
        (rdL 6 c_leftOf v7).bind fun t5 =>
        (if (v3 * r2.toInt64) ≤ (t5 * v5) then
          f_X8_findShares_102 N c_askers c_places c_seats c_wish k57 n c_whole c_ate c_eats c_leftOf v1 v3 v5 (v7 + 1)
        else
          (rdL 6 c_leftOf v7).bind fun t7 =>
          f_X8_findShares_102 N c_askers c_places c_seats c_wish k57 n c_whole c_ate c_eats c_leftOf v1 t7 r2.toInt64 (v7 + 1))))
set_option maxHeartbeats 4000000 in
set_option maxRecDepth 100000 in
theorem g_X8_findShares_102 {κ : KC} {ω : KW} {A : Nat → Prop} {ad : Nat → Nat} {u_above : Int64} {u_below : Int64} {u_full : Int32} {u_firsts : Int32} {u_freed : Int32} {N : Nat} {c_askers : Int32} {c_places : Int32} {c_seats : Nat → Int32} {c_wish : Nat → Int32}  {k57 : Int64 → (Nat → Int64) → (Nat → Int32) → (Nat → Int64) → Int64 → Option (Int64 × (Nat → Int64) × (Nat → Int32) × (Nat → Int64))} {res : Int64 × (Nat → Int64) × (Nat → Int32) × (Nat → Int64)} (hk57 : ∀ {c_whole : Int64} {c_ate : Nat → Int64} {c_eats : Nat → Int32} {c_leftOf : Nat → Int64} {v1 : Int64}, k57 c_whole c_ate c_eats c_leftOf v1 = some res → GG mu_X8_findShares κ ω A (QR κ ω A ad (none) (w_X8_findShares c_askers c_places res.1 res.2.1 res.2.2.1 res.2.2.2 c_seats c_wish u_above u_below u_full u_firsts u_freed)) ad 0 0 57 (w_X8_findShares c_askers c_places c_whole c_ate c_eats c_leftOf c_seats c_wish u_above u_below u_full u_firsts u_freed) [some (.ref 0), some (.long v1), none, none, none, none, none, none, none, none] []) : ∀ (n : Nat) {c_whole : Int64} {c_ate : Nat → Int64} {c_eats : Nat → Int32} {c_leftOf : Nat → Int64} {v1 : Int64} {v3 : Int64} {v5 : Int64} {v7 : Int32}, f_X8_findShares_102 N c_askers c_places c_seats c_wish k57 n c_whole c_ate c_eats c_leftOf v1 v3 v5 v7 = some res → GG mu_X8_findShares κ ω A (QR κ ω A ad (none) (w_X8_findShares c_askers c_places res.1 res.2.1 res.2.2.1 res.2.2.2 c_seats c_wish u_above u_below u_full u_firsts u_freed)) ad 0 0 102 (w_X8_findShares c_askers c_places c_whole c_ate c_eats c_leftOf c_seats c_wish u_above u_below u_full u_firsts u_freed) [some (.ref 0), some (.long v1), none, some (.long v3), none, some (.long v5), none, some (.int v7), none, none] [] := by
  intro n
  induction n with
  | zero => intro c_whole c_ate c_eats c_leftOf v1 v3 v5 v7 hf; exact ob_0 hf
  | succ n ih =>
    intro c_whole c_ate c_eats c_leftOf v1 v3 v5 v7 hf
    refine G_iload dX8_findShares_102 rfl ?_
    refine G_aload_n dX8_findShares_104 rfl rfl ?_
    refine G_get (v := .int c_places) F_X8_97 dX8_findShares_105 rfl rfl ?_
    refine G_icmp_ge 163 dX8_findShares_108 (by decide) (fun h1 => ?_) (fun h1 => ?_)
    · replace hf := ob_t h1 hf
      refine G_aload_n dX8_findShares_163 rfl rfl ?_
      refine G_dup dX8_findShares_164 rfl ?_
      refine G_get (v := .long c_whole) F_X8_223 dX8_findShares_165 rfl rfl ?_
      refine G_lload dX8_findShares_168 rfl ?_
      refine G_lmul dX8_findShares_170 ?_
      refine G_put (w2 := (w_X8_findShares c_askers c_places (c_whole * v5) c_ate c_eats c_leftOf c_seats c_wish u_above u_below u_full u_firsts u_freed)) F_X8_223 dX8_findShares_171 rfl rfl rfl (ltb rfl) rfl ?_
      refine G_lload_n dX8_findShares_174 rfl rfl ?_
      refine G_lload dX8_findShares_175 rfl ?_
      refine G_lmul dX8_findShares_177 ?_
      refine G_lload_n dX8_findShares_178 rfl rfl ?_
      refine G_lsub dX8_findShares_179 ?_
      refine G_lstore_n dX8_findShares_180 rfl (ltb rfl) ?_
      change GG _ _ _ _ _ _ _ _ _ _ [some (.ref 0), some (.long ((v1 * v5) - v3)), none, some (.long v3), none, some (.long v5), none, some (.int v7), none, none] _
      refine G_iconst 0 dX8_findShares_181 (by decide) ?_
      refine G_istore dX8_findShares_182 (ltb rfl) ?_
      change GG _ _ _ _ _ _ _ _ _ _ [some (.ref 0), some (.long ((v1 * v5) - v3)), none, some (.long v3), none, some (.long v5), none, some (.int 0), none, none] _
      exact g_X8_findShares_184 hk57 N hf
    · replace hf := ob_f h1 hf
      refine G_aload_n dX8_findShares_111 rfl rfl ?_
      refine G_iload dX8_findShares_112 rfl ?_
      obtain ⟨r2, hc3, hf⟩ := ob hf
      refine G_callV (μ2 := mu_X8_eaters) (As := [.int v7]) (w2 := (w_X8_findShares c_askers c_places c_whole c_ate c_eats c_leftOf c_seats c_wish u_above u_below u_full u_firsts u_freed)) (wc := (w_X8_eaters c_askers c_eats c_places u_above u_below u_full u_firsts u_freed c_whole)) (wc2 := (w_X8_eaters c_askers c_eats c_places u_above u_below u_full u_firsts u_freed c_whole)) (rest := []) (rv := [.int r2]) [0, 2] [4, 5, 1000, 1001, 1002, 1003, 1004, 1005, 1006, 1007, 1008, 1009, 1010, 1011, 1012, 1013, 1014, 1015, 3, 1] [1, 3, 4, 5] [4, 0, 5, 1, 2, 3] (c_X8_eaters hc3) cw_X8_eaters m_X8_229 dX8_findShares_114 rfl ⟨leb rfl, leb rfl⟩ ⟨rfl, rfl⟩ rfl ⟨_, rfl, rfl⟩ (Fit.mk rfl rfl rfl) rfl (leb rfl) (ROsub.nil rfl rfl) rfl ?_
      change GG _ _ _ _ _ _ _ _ _ (w_X8_findShares c_askers c_places c_whole c_ate c_eats c_leftOf c_seats c_wish u_above u_below u_full u_firsts u_freed) [some (.ref 0), some (.long v1), none, some (.long v3), none, some (.long v5), none, some (.int v7), none, none] [.int r2]
      refine G_i2l dX8_findShares_117 ?_
      refine G_lstore dX8_findShares_118 (ltb rfl) ?_
      change GG _ _ _ _ _ _ _ _ _ _ [some (.ref 0), some (.long v1), none, some (.long v3), none, some (.long v5), none, some (.int v7), some (.long r2.toInt64), none] _
      refine G_lload dX8_findShares_120 rfl ?_
      refine G_lconst 0 dX8_findShares_122 (by decide) ?_
      refine G_lcmp_le 157 dX8_findShares_123 dX8_findShares_124 (by decide) (fun h4 => ?_) (fun h4 => ?_)
      · replace hf := ob_t h4 hf
        refine G_iinc 1 dX8_findShares_157 (by decide) rfl (ltb rfl) ?_
        change GG _ _ _ _ _ _ _ _ _ _ [some (.ref 0), some (.long v1), none, some (.long v3), none, some (.long v5), none, some (.int (v7 + 1)), some (.long r2.toInt64), none] _
        refine G_goto 102 dX8_findShares_160 (by decide) ?_
        refine GG.sb (lv2 := [some (.ref 0), some (.long v1), none, some (.long v3), none, some (.long v5), none, some (.int (v7 + 1)), none, none]) ?_ (lvS_v rfl (lvS_v rfl (lvS_n (lvS_v rfl (lvS_n (lvS_v rfl (lvS_n (lvS_v rfl (lvS_n (lvS_n (lvS_e)))))))))))
        exact ih hf
      · replace hf := ob_f h4 hf
        refine G_aload_n dX8_findShares_127 rfl rfl ?_
        refine G_get (v := .ref 3) F_X8_69 dX8_findShares_128 rfl rfl ?_
        refine G_iload dX8_findShares_131 rfl ?_
        obtain ⟨t5, ht5, hf⟩ := ob hf
        refine G_lald dX8_findShares_133 rfl ht5 ?_
        refine G_lload dX8_findShares_134 rfl ?_
        refine G_lmul dX8_findShares_136 ?_
        refine G_lload_n dX8_findShares_137 rfl rfl ?_
        refine G_lload dX8_findShares_138 rfl ?_
        refine G_lmul dX8_findShares_140 ?_
        refine G_lcmp_ge 157 dX8_findShares_141 dX8_findShares_142 (by decide) (fun h6 => ?_) (fun h6 => ?_)
        · replace hf := ob_t h6 hf
          refine G_iinc 1 dX8_findShares_157 (by decide) rfl (ltb rfl) ?_
          change GG _ _ _ _ _ _ _ _ _ _ [some (.ref 0), some (.long v1), none, some (.long v3), none, some (.long v5), none, some (.int (v7 + 1)), some (.long r2.toInt64), none] _
          refine G_goto 102 dX8_findShares_160 (by decide) ?_
          refine GG.sb (lv2 := [some (.ref 0), some (.long v1), none, some (.long v3), none, some (.long v5), none, some (.int (v7 + 1)), none, none]) ?_ (lvS_v rfl (lvS_v rfl (lvS_n (lvS_v rfl (lvS_n (lvS_v rfl (lvS_n (lvS_v rfl (lvS_n (lvS_n (lvS_e)))))))))))
          exact ih hf
        · replace hf := ob_f h6 hf
          refine G_aload_n dX8_findShares_145 rfl rfl ?_
          refine G_get (v := .ref 3) F_X8_69 dX8_findShares_146 rfl rfl ?_
          refine G_iload dX8_findShares_149 rfl ?_
          obtain ⟨t7, ht7, hf⟩ := ob hf
          refine G_lald dX8_findShares_151 rfl ht7 ?_
          refine G_lstore_n dX8_findShares_152 rfl (ltb rfl) ?_
          change GG _ _ _ _ _ _ _ _ _ _ [some (.ref 0), some (.long v1), none, some (.long t7), none, some (.long v5), none, some (.int v7), some (.long r2.toInt64), none] _
          refine G_lload dX8_findShares_153 rfl ?_
          refine G_lstore dX8_findShares_155 (ltb rfl) ?_
          change GG _ _ _ _ _ _ _ _ _ _ [some (.ref 0), some (.long v1), none, some (.long t7), none, some (.long r2.toInt64), none, some (.int v7), some (.long r2.toInt64), none] _
          refine G_iinc 1 dX8_findShares_157 (by decide) rfl (ltb rfl) ?_
          change GG _ _ _ _ _ _ _ _ _ _ [some (.ref 0), some (.long v1), none, some (.long t7), none, some (.long r2.toInt64), none, some (.int (v7 + 1)), some (.long r2.toInt64), none] _
          refine G_goto 102 dX8_findShares_160 (by decide) ?_
          refine GG.sb (lv2 := [some (.ref 0), some (.long v1), none, some (.long t7), none, some (.long r2.toInt64), none, some (.int (v7 + 1)), none, none]) ?_ (lvS_v rfl (lvS_v rfl (lvS_n (lvS_v rfl (lvS_n (lvS_v rfl (lvS_n (lvS_v rfl (lvS_n (lvS_n (lvS_e)))))))))))
          exact ih hf
def f_X8_findShares_71 (N : Nat) (c_askers : Int32) (c_places : Int32) (c_seats : Nat → Int32) (c_wish : Nat → Int32) (k57 : Int64 → (Nat → Int64) → (Nat → Int32) → (Nat → Int64) → Int64 → Option (Int64 × (Nat → Int64) × (Nat → Int32) × (Nat → Int64))) : Nat → Int64 → (Nat → Int64) → (Nat → Int32) → (Nat → Int64) → Int64 → Int64 → Int64 → Int32 → Option (Int64 × (Nat → Int64) × (Nat → Int32) × (Nat → Int64))
  | 0, _, _, _, _, _, _, _, _ => none
  | n + 1, c_whole, c_ate, c_eats, c_leftOf, v1, v3, v5, v7 =>
    (if c_askers ≤ v7 then
      f_X8_findShares_102 N c_askers c_places c_seats c_wish k57 N c_whole c_ate c_eats c_leftOf v1 v3 v5 0
    else
      (f_X8_eatsOf N c_places c_leftOf c_wish v7).bind fun r2 =>
      (wrI 8 c_eats v7 r2).bind fun t4 =>
      f_X8_findShares_71 N c_askers c_places c_seats c_wish k57 n c_whole c_ate t4 c_leftOf v1 v3 v5 (v7 + 1))
set_option maxHeartbeats 4000000 in
set_option maxRecDepth 100000 in
theorem g_X8_findShares_71 {κ : KC} {ω : KW} {A : Nat → Prop} {ad : Nat → Nat} {u_above : Int64} {u_below : Int64} {u_full : Int32} {u_firsts : Int32} {u_freed : Int32} {N : Nat} {c_askers : Int32} {c_places : Int32} {c_seats : Nat → Int32} {c_wish : Nat → Int32}  {k57 : Int64 → (Nat → Int64) → (Nat → Int32) → (Nat → Int64) → Int64 → Option (Int64 × (Nat → Int64) × (Nat → Int32) × (Nat → Int64))} {res : Int64 × (Nat → Int64) × (Nat → Int32) × (Nat → Int64)} (hk57 : ∀ {c_whole : Int64} {c_ate : Nat → Int64} {c_eats : Nat → Int32} {c_leftOf : Nat → Int64} {v1 : Int64}, k57 c_whole c_ate c_eats c_leftOf v1 = some res → GG mu_X8_findShares κ ω A (QR κ ω A ad (none) (w_X8_findShares c_askers c_places res.1 res.2.1 res.2.2.1 res.2.2.2 c_seats c_wish u_above u_below u_full u_firsts u_freed)) ad 0 0 57 (w_X8_findShares c_askers c_places c_whole c_ate c_eats c_leftOf c_seats c_wish u_above u_below u_full u_firsts u_freed) [some (.ref 0), some (.long v1), none, none, none, none, none, none, none, none] []) : ∀ (n : Nat) {c_whole : Int64} {c_ate : Nat → Int64} {c_eats : Nat → Int32} {c_leftOf : Nat → Int64} {v1 : Int64} {v3 : Int64} {v5 : Int64} {v7 : Int32}, f_X8_findShares_71 N c_askers c_places c_seats c_wish k57 n c_whole c_ate c_eats c_leftOf v1 v3 v5 v7 = some res → GG mu_X8_findShares κ ω A (QR κ ω A ad (none) (w_X8_findShares c_askers c_places res.1 res.2.1 res.2.2.1 res.2.2.2 c_seats c_wish u_above u_below u_full u_firsts u_freed)) ad 0 0 71 (w_X8_findShares c_askers c_places c_whole c_ate c_eats c_leftOf c_seats c_wish u_above u_below u_full u_firsts u_freed) [some (.ref 0), some (.long v1), none, some (.long v3), none, some (.long v5), none, some (.int v7), none, none] [] := by
  intro n
  induction n with
  | zero => intro c_whole c_ate c_eats c_leftOf v1 v3 v5 v7 hf; exact ob_0 hf
  | succ n ih =>
    intro c_whole c_ate c_eats c_leftOf v1 v3 v5 v7 hf
    refine G_iload dX8_findShares_71 rfl ?_
    refine G_aload_n dX8_findShares_73 rfl rfl ?_
    refine G_get (v := .int c_askers) F_X8_89 dX8_findShares_74 rfl rfl ?_
    refine G_icmp_ge 99 dX8_findShares_77 (by decide) (fun h1 => ?_) (fun h1 => ?_)
    · replace hf := ob_t h1 hf
      refine G_iconst 0 dX8_findShares_99 (by decide) ?_
      refine G_istore dX8_findShares_100 (ltb rfl) ?_
      change GG _ _ _ _ _ _ _ _ _ _ [some (.ref 0), some (.long v1), none, some (.long v3), none, some (.long v5), none, some (.int 0), none, none] _
      exact g_X8_findShares_102 hk57 N hf
    · replace hf := ob_f h1 hf
      refine G_aload_n dX8_findShares_80 rfl rfl ?_
      refine G_get (v := .ref 2) F_X8_75 dX8_findShares_81 rfl rfl ?_
      refine G_iload dX8_findShares_84 rfl ?_
      refine G_aload_n dX8_findShares_86 rfl rfl ?_
      refine G_iload dX8_findShares_87 rfl ?_
      obtain ⟨r2, hc3, hf⟩ := ob hf
      refine G_callV (μ2 := mu_X8_eatsOf) (As := [.int v7]) (w2 := (w_X8_findShares c_askers c_places c_whole c_ate c_eats c_leftOf c_seats c_wish u_above u_below u_full u_firsts u_freed)) (wc := (w_X8_eatsOf c_places c_leftOf c_wish c_askers u_above u_below u_full u_firsts u_freed c_whole)) (wc2 := (w_X8_eatsOf c_places c_leftOf c_wish c_askers u_above u_below u_full u_firsts u_freed c_whole)) (rest := [.int v7, .ref 2]) (rv := [.int r2]) [0, 3, 5] [4, 1000, 1001, 1002, 1003, 1004, 1005, 1006, 1007, 1008, 1009, 1010, 1011, 1012, 1013, 1014, 1015, 1, 2] [1, 2, 4] [3, 0, 1, 4, 2, 5] (c_X8_eatsOf hc3) cw_X8_eatsOf m_X8_226 dX8_findShares_89 rfl ⟨leb rfl, leb rfl⟩ ⟨rfl, rfl⟩ rfl ⟨_, rfl, rfl⟩ (Fit.mk rfl rfl rfl) rfl (leb rfl) (ROsub.nil rfl rfl) rfl ?_
      change GG _ _ _ _ _ _ _ _ _ (w_X8_findShares c_askers c_places c_whole c_ate c_eats c_leftOf c_seats c_wish u_above u_below u_full u_firsts u_freed) [some (.ref 0), some (.long v1), none, some (.long v3), none, some (.long v5), none, some (.int v7), none, none] [.int r2, .int v7, .ref 2]
      obtain ⟨t4, ht4, hf⟩ := ob hf
      refine G_iast (w2 := (w_X8_findShares c_askers c_places c_whole c_ate t4 c_leftOf c_seats c_wish u_above u_below u_full u_firsts u_freed)) dX8_findShares_92 rfl ht4 rfl ?_
      refine G_iinc 1 dX8_findShares_93 (by decide) rfl (ltb rfl) ?_
      change GG _ _ _ _ _ _ _ _ _ _ [some (.ref 0), some (.long v1), none, some (.long v3), none, some (.long v5), none, some (.int (v7 + 1)), none, none] _
      refine G_goto 71 dX8_findShares_96 (by decide) ?_
      exact ih hf
def f_X8_findShares_57 (N : Nat) (c_askers : Int32) (c_places : Int32) (c_seats : Nat → Int32) (c_wish : Nat → Int32) : Nat → Int64 → (Nat → Int64) → (Nat → Int32) → (Nat → Int64) → Int64 → Option (Int64 × (Nat → Int64) × (Nat → Int32) × (Nat → Int64))
  | 0, _, _, _, _, _ => none
  | n + 1, c_whole, c_ate, c_eats, c_leftOf, v1 =>
    (if v1 ≤ 0 then
      some (c_whole, c_ate, c_eats, c_leftOf)
    else
      f_X8_findShares_71 N c_askers c_places c_seats c_wish (f_X8_findShares_57 N c_askers c_places c_seats c_wish n) N c_whole c_ate c_eats c_leftOf v1 v1 1 0)
set_option maxHeartbeats 4000000 in
set_option maxRecDepth 100000 in
theorem g_X8_findShares_57 {κ : KC} {ω : KW} {A : Nat → Prop} {ad : Nat → Nat} {u_above : Int64} {u_below : Int64} {u_full : Int32} {u_firsts : Int32} {u_freed : Int32} {N : Nat} {c_askers : Int32} {c_places : Int32} {c_seats : Nat → Int32} {c_wish : Nat → Int32}  {res : Int64 × (Nat → Int64) × (Nat → Int32) × (Nat → Int64)} : ∀ (n : Nat) {c_whole : Int64} {c_ate : Nat → Int64} {c_eats : Nat → Int32} {c_leftOf : Nat → Int64} {v1 : Int64}, f_X8_findShares_57 N c_askers c_places c_seats c_wish n c_whole c_ate c_eats c_leftOf v1 = some res → GG mu_X8_findShares κ ω A (QR κ ω A ad (none) (w_X8_findShares c_askers c_places res.1 res.2.1 res.2.2.1 res.2.2.2 c_seats c_wish u_above u_below u_full u_firsts u_freed)) ad 0 0 57 (w_X8_findShares c_askers c_places c_whole c_ate c_eats c_leftOf c_seats c_wish u_above u_below u_full u_firsts u_freed) [some (.ref 0), some (.long v1), none, none, none, none, none, none, none, none] [] := by
  intro n
  induction n with
  | zero => intro c_whole c_ate c_eats c_leftOf v1 hf; exact ob_0 hf
  | succ n ih =>
    intro c_whole c_ate c_eats c_leftOf v1 hf
    refine G_lload_n dX8_findShares_57 rfl rfl ?_
    refine G_lconst 0 dX8_findShares_58 (by decide) ?_
    refine G_lcmp_le 308 dX8_findShares_59 dX8_findShares_60 (by decide) (fun h1 => ?_) (fun h1 => ?_)
    · replace hf := ob_t h1 hf
      obtain rfl := os hf
      exact G_return dX8_findShares_308 rfl
    · replace hf := ob_f h1 hf
      refine G_lload_n dX8_findShares_63 rfl rfl ?_
      refine G_lstore_n dX8_findShares_64 rfl (ltb rfl) ?_
      change GG _ _ _ _ _ _ _ _ _ _ [some (.ref 0), some (.long v1), none, some (.long v1), none, none, none, none, none, none] _
      refine G_lconst 1 dX8_findShares_65 (by decide) ?_
      refine G_lstore dX8_findShares_66 (ltb rfl) ?_
      change GG _ _ _ _ _ _ _ _ _ _ [some (.ref 0), some (.long v1), none, some (.long v1), none, some (.long 1), none, none, none, none] _
      refine G_iconst 0 dX8_findShares_68 (by decide) ?_
      refine G_istore dX8_findShares_69 (ltb rfl) ?_
      change GG _ _ _ _ _ _ _ _ _ _ [some (.ref 0), some (.long v1), none, some (.long v1), none, some (.long 1), none, some (.int 0), none, none] _
      exact g_X8_findShares_71 ih N hf
def f_X8_findShares_36 (N : Nat) (c_askers : Int32) (c_places : Int32) (c_seats : Nat → Int32) (c_wish : Nat → Int32) : Nat → Int64 → (Nat → Int64) → (Nat → Int32) → (Nat → Int64) → Int32 → Option (Int64 × (Nat → Int64) × (Nat → Int32) × (Nat → Int64))
  | 0, _, _, _, _, _ => none
  | n + 1, c_whole, c_ate, c_eats, c_leftOf, v1 =>
    (if 48 ≤ v1 then
      f_X8_findShares_57 N c_askers c_places c_seats c_wish N c_whole c_ate c_eats c_leftOf 1
    else
      (wrL 48 c_ate v1 0).bind fun t2 =>
      f_X8_findShares_36 N c_askers c_places c_seats c_wish n c_whole t2 c_eats c_leftOf (v1 + 1))
set_option maxHeartbeats 4000000 in
set_option maxRecDepth 100000 in
theorem g_X8_findShares_36 {κ : KC} {ω : KW} {A : Nat → Prop} {ad : Nat → Nat} {u_above : Int64} {u_below : Int64} {u_full : Int32} {u_firsts : Int32} {u_freed : Int32} {N : Nat} {c_askers : Int32} {c_places : Int32} {c_seats : Nat → Int32} {c_wish : Nat → Int32}  {res : Int64 × (Nat → Int64) × (Nat → Int32) × (Nat → Int64)} : ∀ (n : Nat) {c_whole : Int64} {c_ate : Nat → Int64} {c_eats : Nat → Int32} {c_leftOf : Nat → Int64} {v1 : Int32}, f_X8_findShares_36 N c_askers c_places c_seats c_wish n c_whole c_ate c_eats c_leftOf v1 = some res → GG mu_X8_findShares κ ω A (QR κ ω A ad (none) (w_X8_findShares c_askers c_places res.1 res.2.1 res.2.2.1 res.2.2.2 c_seats c_wish u_above u_below u_full u_firsts u_freed)) ad 0 0 36 (w_X8_findShares c_askers c_places c_whole c_ate c_eats c_leftOf c_seats c_wish u_above u_below u_full u_firsts u_freed) [some (.ref 0), some (.int v1), none, none, none, none, none, none, none, none] [] := by
  intro n
  induction n with
  | zero => intro c_whole c_ate c_eats c_leftOf v1 hf; exact ob_0 hf
  | succ n ih =>
    intro c_whole c_ate c_eats c_leftOf v1 hf
    refine G_iload_n dX8_findShares_36 rfl rfl ?_
    refine G_bipush 48 dX8_findShares_37 (by decide) ?_
    refine G_icmp_ge 55 dX8_findShares_39 (by decide) (fun h1 => ?_) (fun h1 => ?_)
    · replace hf := ob_t h1 hf
      refine G_lconst 1 dX8_findShares_55 (by decide) ?_
      refine G_lstore_n dX8_findShares_56 rfl (ltb rfl) ?_
      change GG _ _ _ _ _ _ _ _ _ _ [some (.ref 0), some (.long 1), none, none, none, none, none, none, none, none] _
      exact g_X8_findShares_57 N hf
    · replace hf := ob_f h1 hf
      refine G_aload_n dX8_findShares_42 rfl rfl ?_
      refine G_get (v := .ref 1) F_X8_72 dX8_findShares_43 rfl rfl ?_
      refine G_iload_n dX8_findShares_46 rfl rfl ?_
      refine G_lconst 0 dX8_findShares_47 (by decide) ?_
      obtain ⟨t2, ht2, hf⟩ := ob hf
      refine G_last (w2 := (w_X8_findShares c_askers c_places c_whole t2 c_eats c_leftOf c_seats c_wish u_above u_below u_full u_firsts u_freed)) dX8_findShares_48 rfl ht2 rfl ?_
      refine G_iinc 1 dX8_findShares_49 (by decide) rfl (ltb rfl) ?_
      change GG _ _ _ _ _ _ _ _ _ _ [some (.ref 0), some (.int (v1 + 1)), none, none, none, none, none, none, none, none] _
      refine G_goto 36 dX8_findShares_52 (by decide) ?_
      exact ih hf
def f_X8_findShares_7 (N : Nat) (c_askers : Int32) (c_places : Int32) (c_seats : Nat → Int32) (c_wish : Nat → Int32) : Nat → Int64 → (Nat → Int64) → (Nat → Int32) → (Nat → Int64) → Int32 → Option (Int64 × (Nat → Int64) × (Nat → Int32) × (Nat → Int64))
  | 0, _, _, _, _, _ => none
  | n + 1, c_whole, c_ate, c_eats, c_leftOf, v1 =>
    (if c_places ≤ v1 then
      f_X8_findShares_36 N c_askers c_places c_seats c_wish N c_whole c_ate c_eats c_leftOf 0
    else
      (rdI 6 c_seats v1).bind fun t2 =>
      (wrL 6 c_leftOf v1 t2.toInt64).bind fun t3 =>
      f_X8_findShares_7 N c_askers c_places c_seats c_wish n c_whole c_ate c_eats t3 (v1 + 1))
set_option maxHeartbeats 4000000 in
set_option maxRecDepth 100000 in
theorem g_X8_findShares_7 {κ : KC} {ω : KW} {A : Nat → Prop} {ad : Nat → Nat} {u_above : Int64} {u_below : Int64} {u_full : Int32} {u_firsts : Int32} {u_freed : Int32} {N : Nat} {c_askers : Int32} {c_places : Int32} {c_seats : Nat → Int32} {c_wish : Nat → Int32}  {res : Int64 × (Nat → Int64) × (Nat → Int32) × (Nat → Int64)} : ∀ (n : Nat) {c_whole : Int64} {c_ate : Nat → Int64} {c_eats : Nat → Int32} {c_leftOf : Nat → Int64} {v1 : Int32}, f_X8_findShares_7 N c_askers c_places c_seats c_wish n c_whole c_ate c_eats c_leftOf v1 = some res → GG mu_X8_findShares κ ω A (QR κ ω A ad (none) (w_X8_findShares c_askers c_places res.1 res.2.1 res.2.2.1 res.2.2.2 c_seats c_wish u_above u_below u_full u_firsts u_freed)) ad 0 0 7 (w_X8_findShares c_askers c_places c_whole c_ate c_eats c_leftOf c_seats c_wish u_above u_below u_full u_firsts u_freed) [some (.ref 0), some (.int v1), none, none, none, none, none, none, none, none] [] := by
  intro n
  induction n with
  | zero => intro c_whole c_ate c_eats c_leftOf v1 hf; exact ob_0 hf
  | succ n ih =>
    intro c_whole c_ate c_eats c_leftOf v1 hf
    refine G_iload_n dX8_findShares_7 rfl rfl ?_
    refine G_aload_n dX8_findShares_8 rfl rfl ?_
    refine G_get (v := .int c_places) F_X8_97 dX8_findShares_9 rfl rfl ?_
    refine G_icmp_ge 34 dX8_findShares_12 (by decide) (fun h1 => ?_) (fun h1 => ?_)
    · replace hf := ob_t h1 hf
      refine G_iconst 0 dX8_findShares_34 (by decide) ?_
      refine G_istore_n dX8_findShares_35 rfl (ltb rfl) ?_
      change GG _ _ _ _ _ _ _ _ _ _ [some (.ref 0), some (.int 0), none, none, none, none, none, none, none, none] _
      exact g_X8_findShares_36 N hf
    · replace hf := ob_f h1 hf
      refine G_aload_n dX8_findShares_15 rfl rfl ?_
      refine G_get (v := .ref 3) F_X8_69 dX8_findShares_16 rfl rfl ?_
      refine G_iload_n dX8_findShares_19 rfl rfl ?_
      refine G_aload_n dX8_findShares_20 rfl rfl ?_
      refine G_get (v := .ref 4) F_X8_7 dX8_findShares_21 rfl rfl ?_
      refine G_iload_n dX8_findShares_24 rfl rfl ?_
      obtain ⟨t2, ht2, hf⟩ := ob hf
      refine G_iald dX8_findShares_25 rfl ht2 ?_
      refine G_i2l dX8_findShares_26 ?_
      obtain ⟨t3, ht3, hf⟩ := ob hf
      refine G_last (w2 := (w_X8_findShares c_askers c_places c_whole c_ate c_eats t3 c_seats c_wish u_above u_below u_full u_firsts u_freed)) dX8_findShares_27 rfl ht3 rfl ?_
      refine G_iinc 1 dX8_findShares_28 (by decide) rfl (ltb rfl) ?_
      change GG _ _ _ _ _ _ _ _ _ _ [some (.ref 0), some (.int (v1 + 1)), none, none, none, none, none, none, none, none] _
      refine G_goto 7 dX8_findShares_31 (by decide) ?_
      exact ih hf
def f_X8_findShares (N : Nat) (c_askers : Int32) (c_places : Int32) (c_seats : Nat → Int32) (c_wish : Nat → Int32) (c_whole : Int64) (c_ate : Nat → Int64) (c_eats : Nat → Int32) (c_leftOf : Nat → Int64)  : Option (Int64 × (Nat → Int64) × (Nat → Int32) × (Nat → Int64)) :=
  f_X8_findShares_7 N c_askers c_places c_seats c_wish N 1 c_ate c_eats c_leftOf 0
set_option maxHeartbeats 4000000 in
set_option maxRecDepth 100000 in
theorem c_X8_findShares {N : Nat} {c_askers : Int32} {c_places : Int32} {c_seats : Nat → Int32} {c_wish : Nat → Int32} {c_whole : Int64} {c_ate : Nat → Int64} {c_eats : Nat → Int32} {c_leftOf : Nat → Int64} {u_above : Int64} {u_below : Int64} {u_full : Int32} {u_firsts : Int32} {u_freed : Int32}  {res : Int64 × (Nat → Int64) × (Nat → Int32) × (Nat → Int64)} (hf : f_X8_findShares N c_askers c_places c_seats c_wish c_whole c_ate c_eats c_leftOf = some res) : Con mu_X8_findShares [.ref 0] (w_X8_findShares c_askers c_places c_whole c_ate c_eats c_leftOf c_seats c_wish u_above u_below u_full u_firsts u_freed) (none) (w_X8_findShares c_askers c_places res.1 res.2.1 res.2.2.1 res.2.2.2 c_seats c_wish u_above u_below u_full u_firsts u_freed) := by
  refine Con.mk (show plainName RX8 = true by decide +kernel) (leb rfl) (fun κ ω A ad => ?_)
  change GG mu_X8_findShares κ ω A (QR κ ω A ad (none) (w_X8_findShares c_askers c_places res.1 res.2.1 res.2.2.1 res.2.2.2 c_seats c_wish u_above u_below u_full u_firsts u_freed)) ad 0 0 0 (w_X8_findShares c_askers c_places c_whole c_ate c_eats c_leftOf c_seats c_wish u_above u_below u_full u_firsts u_freed) [some (.ref 0), none, none, none, none, none, none, none, none, none] []
  refine G_aload_n dX8_findShares_0 rfl rfl ?_
  refine G_lconst 1 dX8_findShares_1 (by decide) ?_
  refine G_put (w2 := (w_X8_findShares c_askers c_places 1 c_ate c_eats c_leftOf c_seats c_wish u_above u_below u_full u_firsts u_freed)) F_X8_223 dX8_findShares_2 rfl rfl rfl (ltb rfl) rfl ?_
  refine G_iconst 0 dX8_findShares_5 (by decide) ?_
  refine G_istore_n dX8_findShares_6 rfl (ltb rfl) ?_
  change GG _ _ _ _ _ _ _ _ _ _ [some (.ref 0), some (.int 0), none, none, none, none, none, none, none, none] _
  exact g_X8_findShares_7 N hf
set_option maxRecDepth 20000 in
theorem dX8_share_0 : decode cX8_share 0 = .ok (.aload_n 0, 1) := by decide +kernel
set_option maxRecDepth 20000 in
theorem dX8_share_1 : decode cX8_share 1 = .ok (.iload_n 1, 1) := by decide +kernel
set_option maxRecDepth 20000 in
theorem dX8_share_2 : decode cX8_share 2 = .ok (.invokevirtual 108, 3) := by decide +kernel
set_option maxRecDepth 20000 in
theorem dX8_share_5 : decode cX8_share 5 = .ok (.ifCond .eq 11, 3) := by decide +kernel
set_option maxRecDepth 20000 in
theorem dX8_share_8 : decode cX8_share 8 = .ok (.aload_n 0, 1) := by decide +kernel
set_option maxRecDepth 20000 in
theorem dX8_share_9 : decode cX8_share 9 = .ok (.iload_n 2, 1) := by decide +kernel
set_option maxRecDepth 20000 in
theorem dX8_share_10 : decode cX8_share 10 = .ok (.invokevirtual 100, 3) := by decide +kernel
set_option maxRecDepth 20000 in
theorem dX8_share_13 : decode cX8_share 13 = .ok (.ifCond .ne 6, 3) := by decide +kernel
set_option maxRecDepth 20000 in
theorem dX8_share_16 : decode cX8_share 16 = .ok (.bipush (-2), 2) := by decide +kernel
set_option maxRecDepth 20000 in
theorem dX8_share_18 : decode cX8_share 18 = .ok (.ireturn, 1) := by decide +kernel
set_option maxRecDepth 20000 in
theorem dX8_share_19 : decode cX8_share 19 = .ok (.aload_n 0, 1) := by decide +kernel
set_option maxRecDepth 20000 in
theorem dX8_share_20 : decode cX8_share 20 = .ok (.invokevirtual 232, 3) := by decide +kernel
set_option maxRecDepth 20000 in
theorem dX8_share_23 : decode cX8_share 23 = .ok (.aload_n 0, 1) := by decide +kernel
set_option maxRecDepth 20000 in
theorem dX8_share_24 : decode cX8_share 24 = .ok (.getfield 72, 3) := by decide +kernel
set_option maxRecDepth 20000 in
theorem dX8_share_27 : decode cX8_share 27 = .ok (.bipush 6, 2) := by decide +kernel
set_option maxRecDepth 20000 in
theorem dX8_share_29 : decode cX8_share 29 = .ok (.iload_n 1, 1) := by decide +kernel
set_option maxRecDepth 20000 in
theorem dX8_share_30 : decode cX8_share 30 = .ok (.imul, 1) := by decide +kernel
set_option maxRecDepth 20000 in
theorem dX8_share_31 : decode cX8_share 31 = .ok (.iload_n 2, 1) := by decide +kernel
set_option maxRecDepth 20000 in
theorem dX8_share_32 : decode cX8_share 32 = .ok (.iadd, 1) := by decide +kernel
set_option maxRecDepth 20000 in
theorem dX8_share_33 : decode cX8_share 33 = .ok (.laload, 1) := by decide +kernel
set_option maxRecDepth 20000 in
theorem dX8_share_34 : decode cX8_share 34 = .ok (.lconst 0, 1) := by decide +kernel
set_option maxRecDepth 20000 in
theorem dX8_share_35 : decode cX8_share 35 = .ok (.lcmp, 1) := by decide +kernel
set_option maxRecDepth 20000 in
theorem dX8_share_36 : decode cX8_share 36 = .ok (.ifCond .ne 7, 3) := by decide +kernel
set_option maxRecDepth 20000 in
theorem dX8_share_39 : decode cX8_share 39 = .ok (.iconst 0, 1) := by decide +kernel
set_option maxRecDepth 20000 in
theorem dX8_share_40 : decode cX8_share 40 = .ok (.goto 22, 3) := by decide +kernel
set_option maxRecDepth 20000 in
theorem dX8_share_43 : decode cX8_share 43 = .ok (.aload_n 0, 1) := by decide +kernel
set_option maxRecDepth 20000 in
theorem dX8_share_44 : decode cX8_share 44 = .ok (.aload_n 0, 1) := by decide +kernel
set_option maxRecDepth 20000 in
theorem dX8_share_45 : decode cX8_share 45 = .ok (.getfield 72, 3) := by decide +kernel
set_option maxRecDepth 20000 in
theorem dX8_share_48 : decode cX8_share 48 = .ok (.bipush 6, 2) := by decide +kernel
set_option maxRecDepth 20000 in
theorem dX8_share_50 : decode cX8_share 50 = .ok (.iload_n 1, 1) := by decide +kernel
set_option maxRecDepth 20000 in
theorem dX8_share_51 : decode cX8_share 51 = .ok (.imul, 1) := by decide +kernel
set_option maxRecDepth 20000 in
theorem dX8_share_52 : decode cX8_share 52 = .ok (.iload_n 2, 1) := by decide +kernel
set_option maxRecDepth 20000 in
theorem dX8_share_53 : decode cX8_share 53 = .ok (.iadd, 1) := by decide +kernel
set_option maxRecDepth 20000 in
theorem dX8_share_54 : decode cX8_share 54 = .ok (.laload, 1) := by decide +kernel
set_option maxRecDepth 20000 in
theorem dX8_share_55 : decode cX8_share 55 = .ok (.aload_n 0, 1) := by decide +kernel
set_option maxRecDepth 20000 in
theorem dX8_share_56 : decode cX8_share 56 = .ok (.getfield 223, 3) := by decide +kernel
set_option maxRecDepth 20000 in
theorem dX8_share_59 : decode cX8_share 59 = .ok (.invokevirtual 166, 3) := by decide +kernel
set_option maxRecDepth 20000 in
theorem dX8_share_62 : decode cX8_share 62 = .ok (.ireturn, 1) := by decide +kernel
def f_X8_share (N : Nat) (c_askers : Int32) (c_places : Int32) (c_seats : Nat → Int32) (c_wish : Nat → Int32) (c_above : Int64) (c_below : Int64) (c_whole : Int64) (c_ate : Nat → Int64) (c_eats : Nat → Int32) (c_leftOf : Nat → Int64) (a1 : Int32) (a2 : Int32) : Option (Int32 × Int64 × Int64 × Int64 × (Nat → Int64) × (Nat → Int32) × (Nat → Int64)) :=
  (f_X8_isAsker N c_askers a1).bind fun r1 =>
  (if r1 = 0 then
    some ((-2 : Int32), c_above, c_below, c_whole, c_ate, c_eats, c_leftOf)
  else
    (f_X8_isPlace N c_places a2).bind fun r4 =>
    (if r4 = 0 then
      some ((-2 : Int32), c_above, c_below, c_whole, c_ate, c_eats, c_leftOf)
    else
      (f_X8_findShares N c_askers c_places c_seats c_wish c_whole c_ate c_eats c_leftOf).bind fun (o7, o8, o9, o10) =>
      (rdL 48 o8 ((6 * a1) + a2)).bind fun t12 =>
      (if t12 = 0 then
        some (0, c_above, c_below, o7, o8, o9, o10)
      else
        (rdL 48 o8 ((6 * a1) + a2)).bind fun t14 =>
        (f_X8_tells N c_above c_below t14 o7).bind fun (r15, o16, o17) =>
        some (r15, o16, o17, o7, o8, o9, o10))))
set_option maxHeartbeats 4000000 in
set_option maxRecDepth 100000 in
theorem c_X8_share {N : Nat} {c_askers : Int32} {c_places : Int32} {c_seats : Nat → Int32} {c_wish : Nat → Int32} {c_above : Int64} {c_below : Int64} {c_whole : Int64} {c_ate : Nat → Int64} {c_eats : Nat → Int32} {c_leftOf : Nat → Int64} {u_full : Int32} {u_firsts : Int32} {u_freed : Int32} {a1 : Int32} {a2 : Int32} {res : Int32 × Int64 × Int64 × Int64 × (Nat → Int64) × (Nat → Int32) × (Nat → Int64)} (hf : f_X8_share N c_askers c_places c_seats c_wish c_above c_below c_whole c_ate c_eats c_leftOf a1 a2 = some res) : Con mu_X8_share [.ref 0, .int a1, .int a2] (w_X8_share c_askers c_places c_above c_below c_whole c_ate c_eats c_leftOf c_seats c_wish u_full u_firsts u_freed) (some (.int res.1)) (w_X8_share c_askers c_places res.2.1 res.2.2.1 res.2.2.2.1 res.2.2.2.2.1 res.2.2.2.2.2.1 res.2.2.2.2.2.2 c_seats c_wish u_full u_firsts u_freed) := by
  refine Con.mk (show plainName RX8 = true by decide +kernel) (leb rfl) (fun κ ω A ad => ?_)
  change GG mu_X8_share κ ω A (QR κ ω A ad (some (.int res.1)) (w_X8_share c_askers c_places res.2.1 res.2.2.1 res.2.2.2.1 res.2.2.2.2.1 res.2.2.2.2.2.1 res.2.2.2.2.2.2 c_seats c_wish u_full u_firsts u_freed)) ad 0 0 0 (w_X8_share c_askers c_places c_above c_below c_whole c_ate c_eats c_leftOf c_seats c_wish u_full u_firsts u_freed) [some (.ref 0), some (.int a1), some (.int a2)] []
  refine G_aload_n dX8_share_0 rfl rfl ?_
  refine G_iload_n dX8_share_1 rfl rfl ?_
  obtain ⟨r1, hc2, hf⟩ := ob hf
  refine G_callV (μ2 := mu_X8_isAsker) (As := [.int a1]) (w2 := (w_X8_share c_askers c_places c_above c_below c_whole c_ate c_eats c_leftOf c_seats c_wish u_full u_firsts u_freed)) (wc := (w_X8_isAsker c_askers c_places c_above c_below u_full u_firsts u_freed c_whole)) (wc2 := (w_X8_isAsker c_askers c_places c_above c_below u_full u_firsts u_freed c_whole)) (rest := []) (rv := [.int r1]) [0] [4, 5, 1000, 1001, 1002, 1003, 1004, 1005, 1006, 1007, 1008, 1009, 1010, 1011, 1012, 1013, 1014, 1015, 3, 1, 2] [1, 2, 3, 4, 5] [5, 0, 1, 2, 3, 4] (c_X8_isAsker hc2) cw_X8_isAsker m_X8_108 dX8_share_2 rfl ⟨leb rfl, leb rfl⟩ ⟨rfl, rfl⟩ rfl ⟨_, rfl, rfl⟩ (Fit.mk rfl rfl rfl) rfl (leb rfl) (ROsub.nil rfl rfl) rfl ?_
  change GG _ _ _ _ _ _ _ _ _ (w_X8_share c_askers c_places c_above c_below c_whole c_ate c_eats c_leftOf c_seats c_wish u_full u_firsts u_freed) [some (.ref 0), some (.int a1), some (.int a2)] [.int r1]
  refine G_if_eq 16 dX8_share_5 (by decide) (fun h3 => ?_) (fun h3 => ?_)
  · replace hf := ob_t h3 hf
    refine G_bipush (-2 : Int32) dX8_share_16 (by decide) ?_
    obtain rfl := os hf
    exact G_ireturn dX8_share_18 rfl
  · replace hf := ob_f h3 hf
    refine G_aload_n dX8_share_8 rfl rfl ?_
    refine G_iload_n dX8_share_9 rfl rfl ?_
    obtain ⟨r4, hc5, hf⟩ := ob hf
    refine G_callV (μ2 := mu_X8_isPlace) (As := [.int a2]) (w2 := (w_X8_share c_askers c_places c_above c_below c_whole c_ate c_eats c_leftOf c_seats c_wish u_full u_firsts u_freed)) (wc := (w_X8_isPlace c_places c_askers c_above c_below u_full u_firsts u_freed c_whole)) (wc2 := (w_X8_isPlace c_places c_askers c_above c_below u_full u_firsts u_freed c_whole)) (rest := []) (rv := [.int r4]) [0] [4, 5, 1000, 1001, 1002, 1003, 1004, 1005, 1006, 1007, 1008, 1009, 1010, 1011, 1012, 1013, 1014, 1015, 3, 1, 2] [1, 2, 3, 4, 5] [5, 0, 1, 2, 3, 4] (c_X8_isPlace hc5) cw_X8_isPlace m_X8_100 dX8_share_10 rfl ⟨leb rfl, leb rfl⟩ ⟨rfl, rfl⟩ rfl ⟨_, rfl, rfl⟩ (Fit.mk rfl rfl rfl) rfl (leb rfl) (ROsub.nil rfl rfl) rfl ?_
    change GG _ _ _ _ _ _ _ _ _ (w_X8_share c_askers c_places c_above c_below c_whole c_ate c_eats c_leftOf c_seats c_wish u_full u_firsts u_freed) [some (.ref 0), some (.int a1), some (.int a2)] [.int r4]
    refine G_if_ne 19 dX8_share_13 (by decide) (fun h6 => ?_) (fun h6 => ?_)
    · replace hf := ob_f h6 hf
      refine G_aload_n dX8_share_19 rfl rfl ?_
      obtain ⟨⟨o7, o8, o9, o10⟩, hc11, hf⟩ := ob hf
      refine G_callV (μ2 := mu_X8_findShares) (As := []) (w2 := (w_X8_share c_askers c_places c_above c_below o7 o8 o9 o10 c_seats c_wish u_full u_firsts u_freed)) (wc := (w_X8_findShares c_askers c_places c_whole c_ate c_eats c_leftOf c_seats c_wish c_above c_below u_full u_firsts u_freed)) (wc2 := (w_X8_findShares c_askers c_places o7 o8 o9 o10 c_seats c_wish c_above c_below u_full u_firsts u_freed)) (rest := []) (rv := []) [0, 1, 2, 3, 4, 5] [1000, 1001, 1002, 1003, 1004, 1005, 1006, 1007, 1008, 1009, 1010, 1011, 1012, 1013, 1014, 1015] [] [0, 1, 2, 3, 4, 5] (c_X8_findShares hc11) cw_X8_findShares m_X8_232 dX8_share_20 rfl ⟨leb rfl, leb rfl⟩ ⟨rfl, rfl⟩ rfl ⟨_, rfl, rfl⟩ (Fit.mk rfl rfl rfl) rfl (leb rfl) (ROsub.nil rfl rfl) rfl ?_
      change GG _ _ _ _ _ _ _ _ _ (w_X8_share c_askers c_places c_above c_below o7 o8 o9 o10 c_seats c_wish u_full u_firsts u_freed) [some (.ref 0), some (.int a1), some (.int a2)] []
      refine G_aload_n dX8_share_23 rfl rfl ?_
      refine G_get (v := .ref 1) F_X8_72 dX8_share_24 rfl rfl ?_
      refine G_bipush 6 dX8_share_27 (by decide) ?_
      refine G_iload_n dX8_share_29 rfl rfl ?_
      refine G_imul dX8_share_30 ?_
      refine G_iload_n dX8_share_31 rfl rfl ?_
      refine G_iadd dX8_share_32 ?_
      obtain ⟨t12, ht12, hf⟩ := ob hf
      refine G_lald dX8_share_33 rfl ht12 ?_
      refine G_lconst 0 dX8_share_34 (by decide) ?_
      refine G_lcmp_ne 43 dX8_share_35 dX8_share_36 (by decide) (fun h13 => ?_) (fun h13 => ?_)
      · replace hf := ob_f h13 hf
        refine G_aload_n dX8_share_43 rfl rfl ?_
        refine G_aload_n dX8_share_44 rfl rfl ?_
        refine G_get (v := .ref 1) F_X8_72 dX8_share_45 rfl rfl ?_
        refine G_bipush 6 dX8_share_48 (by decide) ?_
        refine G_iload_n dX8_share_50 rfl rfl ?_
        refine G_imul dX8_share_51 ?_
        refine G_iload_n dX8_share_52 rfl rfl ?_
        refine G_iadd dX8_share_53 ?_
        obtain ⟨t14, ht14, hf⟩ := ob hf
        refine G_lald dX8_share_54 rfl ht14 ?_
        refine G_aload_n dX8_share_55 rfl rfl ?_
        refine G_get (v := .long o7) F_X8_223 dX8_share_56 rfl rfl ?_
        obtain ⟨⟨r15, o16, o17⟩, hc18, hf⟩ := ob hf
        refine G_callV (μ2 := mu_X8_tells) (As := [.long t14, .long o7]) (w2 := (w_X8_share c_askers c_places o16 o17 o7 o8 o9 o10 c_seats c_wish u_full u_firsts u_freed)) (wc := (w_X8_tells c_above c_below c_askers c_places u_full u_firsts u_freed o7)) (wc2 := (w_X8_tells o16 o17 c_askers c_places u_full u_firsts u_freed o7)) (rest := []) (rv := [.int r15]) [0] [4, 5, 1000, 1001, 1002, 1003, 1004, 1005, 1006, 1007, 1008, 1009, 1010, 1011, 1012, 1013, 1014, 1015, 3, 1, 2] [1, 2, 3, 4, 5] [5, 0, 1, 2, 3, 4] (c_X8_tells hc18) cw_X8_tells m_X8_166 dX8_share_59 rfl ⟨leb rfl, leb rfl⟩ ⟨rfl, rfl⟩ rfl ⟨_, rfl, rfl⟩ (Fit.mk rfl rfl rfl) rfl (leb rfl) (ROsub.nil rfl rfl) rfl ?_
        change GG _ _ _ _ _ _ _ _ _ (w_X8_share c_askers c_places o16 o17 o7 o8 o9 o10 c_seats c_wish u_full u_firsts u_freed) [some (.ref 0), some (.int a1), some (.int a2)] [.int r15]
        obtain rfl := os hf
        exact G_ireturn dX8_share_62 rfl
      · replace hf := ob_t h13 hf
        refine G_iconst 0 dX8_share_39 (by decide) ?_
        refine G_goto 62 dX8_share_40 (by decide) ?_
        obtain rfl := os hf
        exact G_ireturn dX8_share_62 rfl
    · replace hf := ob_t h6 hf
      refine G_bipush (-2 : Int32) dX8_share_16 (by decide) ?_
      obtain rfl := os hf
      exact G_ireturn dX8_share_18 rfl
set_option maxRecDepth 20000 in
theorem dX8_envies_0 : decode cX8_envies 0 = .ok (.aload_n 0, 1) := by decide +kernel
set_option maxRecDepth 20000 in
theorem dX8_envies_1 : decode cX8_envies 1 = .ok (.iload_n 1, 1) := by decide +kernel
set_option maxRecDepth 20000 in
theorem dX8_envies_2 : decode cX8_envies 2 = .ok (.invokevirtual 108, 3) := by decide +kernel
set_option maxRecDepth 20000 in
theorem dX8_envies_5 : decode cX8_envies 5 = .ok (.ifCond .eq 16, 3) := by decide +kernel
set_option maxRecDepth 20000 in
theorem dX8_envies_8 : decode cX8_envies 8 = .ok (.aload_n 0, 1) := by decide +kernel
set_option maxRecDepth 20000 in
theorem dX8_envies_9 : decode cX8_envies 9 = .ok (.iload_n 2, 1) := by decide +kernel
set_option maxRecDepth 20000 in
theorem dX8_envies_10 : decode cX8_envies 10 = .ok (.invokevirtual 108, 3) := by decide +kernel
set_option maxRecDepth 20000 in
theorem dX8_envies_13 : decode cX8_envies 13 = .ok (.ifCond .eq 8, 3) := by decide +kernel
set_option maxRecDepth 20000 in
theorem dX8_envies_16 : decode cX8_envies 16 = .ok (.iload_n 1, 1) := by decide +kernel
set_option maxRecDepth 20000 in
theorem dX8_envies_17 : decode cX8_envies 17 = .ok (.iload_n 2, 1) := by decide +kernel
set_option maxRecDepth 20000 in
theorem dX8_envies_18 : decode cX8_envies 18 = .ok (.if_icmp .ne 6, 3) := by decide +kernel
set_option maxRecDepth 20000 in
theorem dX8_envies_21 : decode cX8_envies 21 = .ok (.bipush (-2), 2) := by decide +kernel
set_option maxRecDepth 20000 in
theorem dX8_envies_23 : decode cX8_envies 23 = .ok (.ireturn, 1) := by decide +kernel
set_option maxRecDepth 20000 in
theorem dX8_envies_24 : decode cX8_envies 24 = .ok (.aload_n 0, 1) := by decide +kernel
set_option maxRecDepth 20000 in
theorem dX8_envies_25 : decode cX8_envies 25 = .ok (.invokevirtual 232, 3) := by decide +kernel
set_option maxRecDepth 20000 in
theorem dX8_envies_28 : decode cX8_envies 28 = .ok (.iconst 1, 1) := by decide +kernel
set_option maxRecDepth 20000 in
theorem dX8_envies_29 : decode cX8_envies 29 = .ok (.istore_n 3, 1) := by decide +kernel
set_option maxRecDepth 20000 in
theorem dX8_envies_30 : decode cX8_envies 30 = .ok (.iload_n 3, 1) := by decide +kernel
set_option maxRecDepth 20000 in
theorem dX8_envies_31 : decode cX8_envies 31 = .ok (.bipush 7, 2) := by decide +kernel
set_option maxRecDepth 20000 in
theorem dX8_envies_33 : decode cX8_envies 33 = .ok (.if_icmp .ge 97, 3) := by decide +kernel
set_option maxRecDepth 20000 in
theorem dX8_envies_36 : decode cX8_envies 36 = .ok (.lconst 0, 1) := by decide +kernel
set_option maxRecDepth 20000 in
theorem dX8_envies_37 : decode cX8_envies 37 = .ok (.lstore 4, 2) := by decide +kernel
set_option maxRecDepth 20000 in
theorem dX8_envies_39 : decode cX8_envies 39 = .ok (.lconst 0, 1) := by decide +kernel
set_option maxRecDepth 20000 in
theorem dX8_envies_40 : decode cX8_envies 40 = .ok (.lstore 6, 2) := by decide +kernel
set_option maxRecDepth 20000 in
theorem dX8_envies_42 : decode cX8_envies 42 = .ok (.iconst 0, 1) := by decide +kernel
set_option maxRecDepth 20000 in
theorem dX8_envies_43 : decode cX8_envies 43 = .ok (.istore 8, 2) := by decide +kernel
set_option maxRecDepth 20000 in
theorem dX8_envies_45 : decode cX8_envies 45 = .ok (.iload 8, 2) := by decide +kernel
set_option maxRecDepth 20000 in
theorem dX8_envies_47 : decode cX8_envies 47 = .ok (.aload_n 0, 1) := by decide +kernel
set_option maxRecDepth 20000 in
theorem dX8_envies_48 : decode cX8_envies 48 = .ok (.getfield 97, 3) := by decide +kernel
set_option maxRecDepth 20000 in
theorem dX8_envies_51 : decode cX8_envies 51 = .ok (.if_icmp .ge 63, 3) := by decide +kernel
set_option maxRecDepth 20000 in
theorem dX8_envies_54 : decode cX8_envies 54 = .ok (.aload_n 0, 1) := by decide +kernel
set_option maxRecDepth 20000 in
theorem dX8_envies_55 : decode cX8_envies 55 = .ok (.getfield 13, 3) := by decide +kernel
set_option maxRecDepth 20000 in
theorem dX8_envies_58 : decode cX8_envies 58 = .ok (.bipush 6, 2) := by decide +kernel
set_option maxRecDepth 20000 in
theorem dX8_envies_60 : decode cX8_envies 60 = .ok (.iload_n 1, 1) := by decide +kernel
set_option maxRecDepth 20000 in
theorem dX8_envies_61 : decode cX8_envies 61 = .ok (.imul, 1) := by decide +kernel
set_option maxRecDepth 20000 in
theorem dX8_envies_62 : decode cX8_envies 62 = .ok (.iload 8, 2) := by decide +kernel
set_option maxRecDepth 20000 in
theorem dX8_envies_64 : decode cX8_envies 64 = .ok (.iadd, 1) := by decide +kernel
set_option maxRecDepth 20000 in
theorem dX8_envies_65 : decode cX8_envies 65 = .ok (.iaload, 1) := by decide +kernel
set_option maxRecDepth 20000 in
theorem dX8_envies_66 : decode cX8_envies 66 = .ok (.iconst 1, 1) := by decide +kernel
set_option maxRecDepth 20000 in
theorem dX8_envies_67 : decode cX8_envies 67 = .ok (.iload_n 3, 1) := by decide +kernel
set_option maxRecDepth 20000 in
theorem dX8_envies_68 : decode cX8_envies 68 = .ok (.invokestatic 93, 3) := by decide +kernel
set_option maxRecDepth 20000 in
theorem dX8_envies_71 : decode cX8_envies 71 = .ok (.ifCond .eq 37, 3) := by decide +kernel
set_option maxRecDepth 20000 in
theorem dX8_envies_74 : decode cX8_envies 74 = .ok (.lload 4, 2) := by decide +kernel
set_option maxRecDepth 20000 in
theorem dX8_envies_76 : decode cX8_envies 76 = .ok (.aload_n 0, 1) := by decide +kernel
set_option maxRecDepth 20000 in
theorem dX8_envies_77 : decode cX8_envies 77 = .ok (.getfield 72, 3) := by decide +kernel
set_option maxRecDepth 20000 in
theorem dX8_envies_80 : decode cX8_envies 80 = .ok (.bipush 6, 2) := by decide +kernel
set_option maxRecDepth 20000 in
theorem dX8_envies_82 : decode cX8_envies 82 = .ok (.iload_n 1, 1) := by decide +kernel
set_option maxRecDepth 20000 in
theorem dX8_envies_83 : decode cX8_envies 83 = .ok (.imul, 1) := by decide +kernel
set_option maxRecDepth 20000 in
theorem dX8_envies_84 : decode cX8_envies 84 = .ok (.iload 8, 2) := by decide +kernel
set_option maxRecDepth 20000 in
theorem dX8_envies_86 : decode cX8_envies 86 = .ok (.iadd, 1) := by decide +kernel
set_option maxRecDepth 20000 in
theorem dX8_envies_87 : decode cX8_envies 87 = .ok (.laload, 1) := by decide +kernel
set_option maxRecDepth 20000 in
theorem dX8_envies_88 : decode cX8_envies 88 = .ok (.ladd, 1) := by decide +kernel
set_option maxRecDepth 20000 in
theorem dX8_envies_89 : decode cX8_envies 89 = .ok (.lstore 4, 2) := by decide +kernel
set_option maxRecDepth 20000 in
theorem dX8_envies_91 : decode cX8_envies 91 = .ok (.lload 6, 2) := by decide +kernel
set_option maxRecDepth 20000 in
theorem dX8_envies_93 : decode cX8_envies 93 = .ok (.aload_n 0, 1) := by decide +kernel
set_option maxRecDepth 20000 in
theorem dX8_envies_94 : decode cX8_envies 94 = .ok (.getfield 72, 3) := by decide +kernel
set_option maxRecDepth 20000 in
theorem dX8_envies_97 : decode cX8_envies 97 = .ok (.bipush 6, 2) := by decide +kernel
set_option maxRecDepth 20000 in
theorem dX8_envies_99 : decode cX8_envies 99 = .ok (.iload_n 2, 1) := by decide +kernel
set_option maxRecDepth 20000 in
theorem dX8_envies_100 : decode cX8_envies 100 = .ok (.imul, 1) := by decide +kernel
set_option maxRecDepth 20000 in
theorem dX8_envies_101 : decode cX8_envies 101 = .ok (.iload 8, 2) := by decide +kernel
set_option maxRecDepth 20000 in
theorem dX8_envies_103 : decode cX8_envies 103 = .ok (.iadd, 1) := by decide +kernel
set_option maxRecDepth 20000 in
theorem dX8_envies_104 : decode cX8_envies 104 = .ok (.laload, 1) := by decide +kernel
set_option maxRecDepth 20000 in
theorem dX8_envies_105 : decode cX8_envies 105 = .ok (.ladd, 1) := by decide +kernel
set_option maxRecDepth 20000 in
theorem dX8_envies_106 : decode cX8_envies 106 = .ok (.lstore 6, 2) := by decide +kernel
set_option maxRecDepth 20000 in
theorem dX8_envies_108 : decode cX8_envies 108 = .ok (.iinc 8 1, 3) := by decide +kernel
set_option maxRecDepth 20000 in
theorem dX8_envies_111 : decode cX8_envies 111 = .ok (.goto (-66), 3) := by decide +kernel
set_option maxRecDepth 20000 in
theorem dX8_envies_114 : decode cX8_envies 114 = .ok (.lload 4, 2) := by decide +kernel
set_option maxRecDepth 20000 in
theorem dX8_envies_116 : decode cX8_envies 116 = .ok (.lload 6, 2) := by decide +kernel
set_option maxRecDepth 20000 in
theorem dX8_envies_118 : decode cX8_envies 118 = .ok (.lcmp, 1) := by decide +kernel
set_option maxRecDepth 20000 in
theorem dX8_envies_119 : decode cX8_envies 119 = .ok (.ifCond .ge 5, 3) := by decide +kernel
set_option maxRecDepth 20000 in
theorem dX8_envies_122 : decode cX8_envies 122 = .ok (.iconst 1, 1) := by decide +kernel
set_option maxRecDepth 20000 in
theorem dX8_envies_123 : decode cX8_envies 123 = .ok (.ireturn, 1) := by decide +kernel
set_option maxRecDepth 20000 in
theorem dX8_envies_124 : decode cX8_envies 124 = .ok (.iinc 3 1, 3) := by decide +kernel
set_option maxRecDepth 20000 in
theorem dX8_envies_127 : decode cX8_envies 127 = .ok (.goto (-97), 3) := by decide +kernel
set_option maxRecDepth 20000 in
theorem dX8_envies_130 : decode cX8_envies 130 = .ok (.iconst 0, 1) := by decide +kernel
set_option maxRecDepth 20000 in
theorem dX8_envies_131 : decode cX8_envies 131 = .ok (.ireturn, 1) := by decide +kernel
def f_X8_envies_45 (N : Nat) (c_askers : Int32) (c_places : Int32) (c_seats : Nat → Int32) (c_wish : Nat → Int32) (k30 : Int64 → (Nat → Int64) → (Nat → Int32) → (Nat → Int64) → Int32 → Int32 → Int32 → Option (Int32 × Int64 × (Nat → Int64) × (Nat → Int32) × (Nat → Int64))) : Nat → Int64 → (Nat → Int64) → (Nat → Int32) → (Nat → Int64) → Int32 → Int32 → Int32 → Int64 → Int64 → Int32 → Option (Int32 × Int64 × (Nat → Int64) × (Nat → Int32) × (Nat → Int64))
  | 0, _, _, _, _, _, _, _, _, _, _ => none
  | n + 1, c_whole, c_ate, c_eats, c_leftOf, v1, v2, v3, v4, v6, v8 =>
    (if c_places ≤ v8 then
      (if v6 ≤ v4 then
        k30 c_whole c_ate c_eats c_leftOf v1 v2 (v3 + 1)
      else
        some (1, c_whole, c_ate, c_eats, c_leftOf))
    else
      (rdI 48 c_wish ((6 * v1) + v8)).bind fun t3 =>
      (f_X8_in N t3 1 v3).bind fun r4 =>
      (if r4 = 0 then
        f_X8_envies_45 N c_askers c_places c_seats c_wish k30 n c_whole c_ate c_eats c_leftOf v1 v2 v3 v4 v6 (v8 + 1)
      else
        (rdL 48 c_ate ((6 * v1) + v8)).bind fun t7 =>
        (rdL 48 c_ate ((6 * v2) + v8)).bind fun t8 =>
        f_X8_envies_45 N c_askers c_places c_seats c_wish k30 n c_whole c_ate c_eats c_leftOf v1 v2 v3 (v4 + t7) (v6 + t8) (v8 + 1)))
set_option maxHeartbeats 4000000 in
set_option maxRecDepth 100000 in
theorem g_X8_envies_45 {κ : KC} {ω : KW} {A : Nat → Prop} {ad : Nat → Nat} {u_above : Int64} {u_below : Int64} {u_full : Int32} {u_firsts : Int32} {u_freed : Int32} {N : Nat} {c_askers : Int32} {c_places : Int32} {c_seats : Nat → Int32} {c_wish : Nat → Int32}  {k30 : Int64 → (Nat → Int64) → (Nat → Int32) → (Nat → Int64) → Int32 → Int32 → Int32 → Option (Int32 × Int64 × (Nat → Int64) × (Nat → Int32) × (Nat → Int64))} {res : Int32 × Int64 × (Nat → Int64) × (Nat → Int32) × (Nat → Int64)} (hk30 : ∀ {c_whole : Int64} {c_ate : Nat → Int64} {c_eats : Nat → Int32} {c_leftOf : Nat → Int64} {v1 : Int32} {v2 : Int32} {v3 : Int32}, k30 c_whole c_ate c_eats c_leftOf v1 v2 v3 = some res → GG mu_X8_envies κ ω A (QR κ ω A ad (some (.int res.1)) (w_X8_envies c_askers c_places res.2.1 res.2.2.1 res.2.2.2.1 res.2.2.2.2 c_seats c_wish u_above u_below u_full u_firsts u_freed)) ad 0 0 30 (w_X8_envies c_askers c_places c_whole c_ate c_eats c_leftOf c_seats c_wish u_above u_below u_full u_firsts u_freed) [some (.ref 0), some (.int v1), some (.int v2), some (.int v3), none, none, none, none, none] []) : ∀ (n : Nat) {c_whole : Int64} {c_ate : Nat → Int64} {c_eats : Nat → Int32} {c_leftOf : Nat → Int64} {v1 : Int32} {v2 : Int32} {v3 : Int32} {v4 : Int64} {v6 : Int64} {v8 : Int32}, f_X8_envies_45 N c_askers c_places c_seats c_wish k30 n c_whole c_ate c_eats c_leftOf v1 v2 v3 v4 v6 v8 = some res → GG mu_X8_envies κ ω A (QR κ ω A ad (some (.int res.1)) (w_X8_envies c_askers c_places res.2.1 res.2.2.1 res.2.2.2.1 res.2.2.2.2 c_seats c_wish u_above u_below u_full u_firsts u_freed)) ad 0 0 45 (w_X8_envies c_askers c_places c_whole c_ate c_eats c_leftOf c_seats c_wish u_above u_below u_full u_firsts u_freed) [some (.ref 0), some (.int v1), some (.int v2), some (.int v3), some (.long v4), none, some (.long v6), none, some (.int v8)] [] := by
  intro n
  induction n with
  | zero => intro c_whole c_ate c_eats c_leftOf v1 v2 v3 v4 v6 v8 hf; exact ob_0 hf
  | succ n ih =>
    intro c_whole c_ate c_eats c_leftOf v1 v2 v3 v4 v6 v8 hf
    refine G_iload dX8_envies_45 rfl ?_
    refine G_aload_n dX8_envies_47 rfl rfl ?_
    refine G_get (v := .int c_places) F_X8_97 dX8_envies_48 rfl rfl ?_
    refine G_icmp_ge 114 dX8_envies_51 (by decide) (fun h1 => ?_) (fun h1 => ?_)
    · replace hf := ob_t h1 hf
      refine G_lload dX8_envies_114 rfl ?_
      refine G_lload dX8_envies_116 rfl ?_
      refine G_lcmp_ge 124 dX8_envies_118 dX8_envies_119 (by decide) (fun h2 => ?_) (fun h2 => ?_)
      · replace hf := ob_t h2 hf
        refine G_iinc 1 dX8_envies_124 (by decide) rfl (ltb rfl) ?_
        change GG _ _ _ _ _ _ _ _ _ _ [some (.ref 0), some (.int v1), some (.int v2), some (.int (v3 + 1)), some (.long v4), none, some (.long v6), none, some (.int v8)] _
        refine G_goto 30 dX8_envies_127 (by decide) ?_
        refine GG.sb (lv2 := [some (.ref 0), some (.int v1), some (.int v2), some (.int (v3 + 1)), none, none, none, none, none]) ?_ (lvS_v rfl (lvS_v rfl (lvS_v rfl (lvS_v rfl (lvS_n (lvS_n (lvS_n (lvS_n (lvS_n (lvS_e))))))))))
        exact hk30 hf
      · replace hf := ob_f h2 hf
        refine G_iconst 1 dX8_envies_122 (by decide) ?_
        obtain rfl := os hf
        exact G_ireturn dX8_envies_123 rfl
    · replace hf := ob_f h1 hf
      refine G_aload_n dX8_envies_54 rfl rfl ?_
      refine G_get (v := .ref 5) F_X8_13 dX8_envies_55 rfl rfl ?_
      refine G_bipush 6 dX8_envies_58 (by decide) ?_
      refine G_iload_n dX8_envies_60 rfl rfl ?_
      refine G_imul dX8_envies_61 ?_
      refine G_iload dX8_envies_62 rfl ?_
      refine G_iadd dX8_envies_64 ?_
      obtain ⟨t3, ht3, hf⟩ := ob hf
      refine G_iald dX8_envies_65 rfl ht3 ?_
      refine G_iconst 1 dX8_envies_66 (by decide) ?_
      refine G_iload_n dX8_envies_67 rfl rfl ?_
      obtain ⟨r4, hc5, hf⟩ := ob hf
      refine G_callS (μ2 := mu_X8_in) (As := [.int t3, .int 1, .int v3]) (w2 := (w_X8_envies c_askers c_places c_whole c_ate c_eats c_leftOf c_seats c_wish u_above u_below u_full u_firsts u_freed)) (wc := []) (wc2 := []) (rest := []) (rv := [.int r4]) [] [] [0, 1, 2, 3, 4, 5] [0, 1, 2, 3, 4, 5] (c_X8_in hc5) cw_X8_in m_X8_93 rfl dX8_envies_68 rfl ⟨leb rfl, leb rfl⟩ ⟨rfl, rfl⟩ (Fit.mk rfl rfl rfl) rfl (leb rfl) (ROsub.nil rfl rfl) rfl ?_
      change GG _ _ _ _ _ _ _ _ _ (w_X8_envies c_askers c_places c_whole c_ate c_eats c_leftOf c_seats c_wish u_above u_below u_full u_firsts u_freed) [some (.ref 0), some (.int v1), some (.int v2), some (.int v3), some (.long v4), none, some (.long v6), none, some (.int v8)] [.int r4]
      refine G_if_eq 108 dX8_envies_71 (by decide) (fun h6 => ?_) (fun h6 => ?_)
      · replace hf := ob_t h6 hf
        refine G_iinc 1 dX8_envies_108 (by decide) rfl (ltb rfl) ?_
        change GG _ _ _ _ _ _ _ _ _ _ [some (.ref 0), some (.int v1), some (.int v2), some (.int v3), some (.long v4), none, some (.long v6), none, some (.int (v8 + 1))] _
        refine G_goto 45 dX8_envies_111 (by decide) ?_
        exact ih hf
      · replace hf := ob_f h6 hf
        refine G_lload dX8_envies_74 rfl ?_
        refine G_aload_n dX8_envies_76 rfl rfl ?_
        refine G_get (v := .ref 1) F_X8_72 dX8_envies_77 rfl rfl ?_
        refine G_bipush 6 dX8_envies_80 (by decide) ?_
        refine G_iload_n dX8_envies_82 rfl rfl ?_
        refine G_imul dX8_envies_83 ?_
        refine G_iload dX8_envies_84 rfl ?_
        refine G_iadd dX8_envies_86 ?_
        obtain ⟨t7, ht7, hf⟩ := ob hf
        refine G_lald dX8_envies_87 rfl ht7 ?_
        refine G_ladd dX8_envies_88 ?_
        refine G_lstore dX8_envies_89 (ltb rfl) ?_
        change GG _ _ _ _ _ _ _ _ _ _ [some (.ref 0), some (.int v1), some (.int v2), some (.int v3), some (.long (v4 + t7)), none, some (.long v6), none, some (.int v8)] _
        refine G_lload dX8_envies_91 rfl ?_
        refine G_aload_n dX8_envies_93 rfl rfl ?_
        refine G_get (v := .ref 1) F_X8_72 dX8_envies_94 rfl rfl ?_
        refine G_bipush 6 dX8_envies_97 (by decide) ?_
        refine G_iload_n dX8_envies_99 rfl rfl ?_
        refine G_imul dX8_envies_100 ?_
        refine G_iload dX8_envies_101 rfl ?_
        refine G_iadd dX8_envies_103 ?_
        obtain ⟨t8, ht8, hf⟩ := ob hf
        refine G_lald dX8_envies_104 rfl ht8 ?_
        refine G_ladd dX8_envies_105 ?_
        refine G_lstore dX8_envies_106 (ltb rfl) ?_
        change GG _ _ _ _ _ _ _ _ _ _ [some (.ref 0), some (.int v1), some (.int v2), some (.int v3), some (.long (v4 + t7)), none, some (.long (v6 + t8)), none, some (.int v8)] _
        refine G_iinc 1 dX8_envies_108 (by decide) rfl (ltb rfl) ?_
        change GG _ _ _ _ _ _ _ _ _ _ [some (.ref 0), some (.int v1), some (.int v2), some (.int v3), some (.long (v4 + t7)), none, some (.long (v6 + t8)), none, some (.int (v8 + 1))] _
        refine G_goto 45 dX8_envies_111 (by decide) ?_
        exact ih hf
def f_X8_envies_30 (N : Nat) (c_askers : Int32) (c_places : Int32) (c_seats : Nat → Int32) (c_wish : Nat → Int32) : Nat → Int64 → (Nat → Int64) → (Nat → Int32) → (Nat → Int64) → Int32 → Int32 → Int32 → Option (Int32 × Int64 × (Nat → Int64) × (Nat → Int32) × (Nat → Int64))
  | 0, _, _, _, _, _, _, _ => none
  | n + 1, c_whole, c_ate, c_eats, c_leftOf, v1, v2, v3 =>
    (if 7 ≤ v3 then
      some (0, c_whole, c_ate, c_eats, c_leftOf)
    else
      f_X8_envies_45 N c_askers c_places c_seats c_wish (f_X8_envies_30 N c_askers c_places c_seats c_wish n) N c_whole c_ate c_eats c_leftOf v1 v2 v3 0 0 0)
set_option maxHeartbeats 4000000 in
set_option maxRecDepth 100000 in
theorem g_X8_envies_30 {κ : KC} {ω : KW} {A : Nat → Prop} {ad : Nat → Nat} {u_above : Int64} {u_below : Int64} {u_full : Int32} {u_firsts : Int32} {u_freed : Int32} {N : Nat} {c_askers : Int32} {c_places : Int32} {c_seats : Nat → Int32} {c_wish : Nat → Int32}  {res : Int32 × Int64 × (Nat → Int64) × (Nat → Int32) × (Nat → Int64)} : ∀ (n : Nat) {c_whole : Int64} {c_ate : Nat → Int64} {c_eats : Nat → Int32} {c_leftOf : Nat → Int64} {v1 : Int32} {v2 : Int32} {v3 : Int32}, f_X8_envies_30 N c_askers c_places c_seats c_wish n c_whole c_ate c_eats c_leftOf v1 v2 v3 = some res → GG mu_X8_envies κ ω A (QR κ ω A ad (some (.int res.1)) (w_X8_envies c_askers c_places res.2.1 res.2.2.1 res.2.2.2.1 res.2.2.2.2 c_seats c_wish u_above u_below u_full u_firsts u_freed)) ad 0 0 30 (w_X8_envies c_askers c_places c_whole c_ate c_eats c_leftOf c_seats c_wish u_above u_below u_full u_firsts u_freed) [some (.ref 0), some (.int v1), some (.int v2), some (.int v3), none, none, none, none, none] [] := by
  intro n
  induction n with
  | zero => intro c_whole c_ate c_eats c_leftOf v1 v2 v3 hf; exact ob_0 hf
  | succ n ih =>
    intro c_whole c_ate c_eats c_leftOf v1 v2 v3 hf
    refine G_iload_n dX8_envies_30 rfl rfl ?_
    refine G_bipush 7 dX8_envies_31 (by decide) ?_
    refine G_icmp_ge 130 dX8_envies_33 (by decide) (fun h1 => ?_) (fun h1 => ?_)
    · replace hf := ob_t h1 hf
      refine G_iconst 0 dX8_envies_130 (by decide) ?_
      obtain rfl := os hf
      exact G_ireturn dX8_envies_131 rfl
    · replace hf := ob_f h1 hf
      refine G_lconst 0 dX8_envies_36 (by decide) ?_
      refine G_lstore dX8_envies_37 (ltb rfl) ?_
      change GG _ _ _ _ _ _ _ _ _ _ [some (.ref 0), some (.int v1), some (.int v2), some (.int v3), some (.long 0), none, none, none, none] _
      refine G_lconst 0 dX8_envies_39 (by decide) ?_
      refine G_lstore dX8_envies_40 (ltb rfl) ?_
      change GG _ _ _ _ _ _ _ _ _ _ [some (.ref 0), some (.int v1), some (.int v2), some (.int v3), some (.long 0), none, some (.long 0), none, none] _
      refine G_iconst 0 dX8_envies_42 (by decide) ?_
      refine G_istore dX8_envies_43 (ltb rfl) ?_
      change GG _ _ _ _ _ _ _ _ _ _ [some (.ref 0), some (.int v1), some (.int v2), some (.int v3), some (.long 0), none, some (.long 0), none, some (.int 0)] _
      exact g_X8_envies_45 ih N hf
def f_X8_envies (N : Nat) (c_askers : Int32) (c_places : Int32) (c_seats : Nat → Int32) (c_wish : Nat → Int32) (c_whole : Int64) (c_ate : Nat → Int64) (c_eats : Nat → Int32) (c_leftOf : Nat → Int64) (a1 : Int32) (a2 : Int32) : Option (Int32 × Int64 × (Nat → Int64) × (Nat → Int32) × (Nat → Int64)) :=
  (f_X8_isAsker N c_askers a1).bind fun r1 =>
  (if r1 = 0 then
    some ((-2 : Int32), c_whole, c_ate, c_eats, c_leftOf)
  else
    (f_X8_isAsker N c_askers a2).bind fun r4 =>
    (if r4 = 0 then
      some ((-2 : Int32), c_whole, c_ate, c_eats, c_leftOf)
    else
      (if a1 = a2 then
        some ((-2 : Int32), c_whole, c_ate, c_eats, c_leftOf)
      else
        (f_X8_findShares N c_askers c_places c_seats c_wish c_whole c_ate c_eats c_leftOf).bind fun (o8, o9, o10, o11) =>
        f_X8_envies_30 N c_askers c_places c_seats c_wish N o8 o9 o10 o11 a1 a2 1)))
set_option maxHeartbeats 4000000 in
set_option maxRecDepth 100000 in
theorem c_X8_envies {N : Nat} {c_askers : Int32} {c_places : Int32} {c_seats : Nat → Int32} {c_wish : Nat → Int32} {c_whole : Int64} {c_ate : Nat → Int64} {c_eats : Nat → Int32} {c_leftOf : Nat → Int64} {u_above : Int64} {u_below : Int64} {u_full : Int32} {u_firsts : Int32} {u_freed : Int32} {a1 : Int32} {a2 : Int32} {res : Int32 × Int64 × (Nat → Int64) × (Nat → Int32) × (Nat → Int64)} (hf : f_X8_envies N c_askers c_places c_seats c_wish c_whole c_ate c_eats c_leftOf a1 a2 = some res) : Con mu_X8_envies [.ref 0, .int a1, .int a2] (w_X8_envies c_askers c_places c_whole c_ate c_eats c_leftOf c_seats c_wish u_above u_below u_full u_firsts u_freed) (some (.int res.1)) (w_X8_envies c_askers c_places res.2.1 res.2.2.1 res.2.2.2.1 res.2.2.2.2 c_seats c_wish u_above u_below u_full u_firsts u_freed) := by
  refine Con.mk (show plainName RX8 = true by decide +kernel) (leb rfl) (fun κ ω A ad => ?_)
  change GG mu_X8_envies κ ω A (QR κ ω A ad (some (.int res.1)) (w_X8_envies c_askers c_places res.2.1 res.2.2.1 res.2.2.2.1 res.2.2.2.2 c_seats c_wish u_above u_below u_full u_firsts u_freed)) ad 0 0 0 (w_X8_envies c_askers c_places c_whole c_ate c_eats c_leftOf c_seats c_wish u_above u_below u_full u_firsts u_freed) [some (.ref 0), some (.int a1), some (.int a2), none, none, none, none, none, none] []
  refine G_aload_n dX8_envies_0 rfl rfl ?_
  refine G_iload_n dX8_envies_1 rfl rfl ?_
  obtain ⟨r1, hc2, hf⟩ := ob hf
  refine G_callV (μ2 := mu_X8_isAsker) (As := [.int a1]) (w2 := (w_X8_envies c_askers c_places c_whole c_ate c_eats c_leftOf c_seats c_wish u_above u_below u_full u_firsts u_freed)) (wc := (w_X8_isAsker c_askers c_places u_above u_below u_full u_firsts u_freed c_whole)) (wc2 := (w_X8_isAsker c_askers c_places u_above u_below u_full u_firsts u_freed c_whole)) (rest := []) (rv := [.int r1]) [0] [4, 5, 1000, 1001, 1002, 1003, 1004, 1005, 1006, 1007, 1008, 1009, 1010, 1011, 1012, 1013, 1014, 1015, 3, 1, 2] [1, 2, 3, 4, 5] [5, 0, 1, 2, 3, 4] (c_X8_isAsker hc2) cw_X8_isAsker m_X8_108 dX8_envies_2 rfl ⟨leb rfl, leb rfl⟩ ⟨rfl, rfl⟩ rfl ⟨_, rfl, rfl⟩ (Fit.mk rfl rfl rfl) rfl (leb rfl) (ROsub.nil rfl rfl) rfl ?_
  change GG _ _ _ _ _ _ _ _ _ (w_X8_envies c_askers c_places c_whole c_ate c_eats c_leftOf c_seats c_wish u_above u_below u_full u_firsts u_freed) [some (.ref 0), some (.int a1), some (.int a2), none, none, none, none, none, none] [.int r1]
  refine G_if_eq 21 dX8_envies_5 (by decide) (fun h3 => ?_) (fun h3 => ?_)
  · replace hf := ob_t h3 hf
    refine G_bipush (-2 : Int32) dX8_envies_21 (by decide) ?_
    obtain rfl := os hf
    exact G_ireturn dX8_envies_23 rfl
  · replace hf := ob_f h3 hf
    refine G_aload_n dX8_envies_8 rfl rfl ?_
    refine G_iload_n dX8_envies_9 rfl rfl ?_
    obtain ⟨r4, hc5, hf⟩ := ob hf
    refine G_callV (μ2 := mu_X8_isAsker) (As := [.int a2]) (w2 := (w_X8_envies c_askers c_places c_whole c_ate c_eats c_leftOf c_seats c_wish u_above u_below u_full u_firsts u_freed)) (wc := (w_X8_isAsker c_askers c_places u_above u_below u_full u_firsts u_freed c_whole)) (wc2 := (w_X8_isAsker c_askers c_places u_above u_below u_full u_firsts u_freed c_whole)) (rest := []) (rv := [.int r4]) [0] [4, 5, 1000, 1001, 1002, 1003, 1004, 1005, 1006, 1007, 1008, 1009, 1010, 1011, 1012, 1013, 1014, 1015, 3, 1, 2] [1, 2, 3, 4, 5] [5, 0, 1, 2, 3, 4] (c_X8_isAsker hc5) cw_X8_isAsker m_X8_108 dX8_envies_10 rfl ⟨leb rfl, leb rfl⟩ ⟨rfl, rfl⟩ rfl ⟨_, rfl, rfl⟩ (Fit.mk rfl rfl rfl) rfl (leb rfl) (ROsub.nil rfl rfl) rfl ?_
    change GG _ _ _ _ _ _ _ _ _ (w_X8_envies c_askers c_places c_whole c_ate c_eats c_leftOf c_seats c_wish u_above u_below u_full u_firsts u_freed) [some (.ref 0), some (.int a1), some (.int a2), none, none, none, none, none, none] [.int r4]
    refine G_if_eq 21 dX8_envies_13 (by decide) (fun h6 => ?_) (fun h6 => ?_)
    · replace hf := ob_t h6 hf
      refine G_bipush (-2 : Int32) dX8_envies_21 (by decide) ?_
      obtain rfl := os hf
      exact G_ireturn dX8_envies_23 rfl
    · replace hf := ob_f h6 hf
      refine G_iload_n dX8_envies_16 rfl rfl ?_
      refine G_iload_n dX8_envies_17 rfl rfl ?_
      refine G_icmp_ne 24 dX8_envies_18 (by decide) (fun h7 => ?_) (fun h7 => ?_)
      · replace hf := ob_f h7 hf
        refine G_aload_n dX8_envies_24 rfl rfl ?_
        obtain ⟨⟨o8, o9, o10, o11⟩, hc12, hf⟩ := ob hf
        refine G_callV (μ2 := mu_X8_findShares) (As := []) (w2 := (w_X8_envies c_askers c_places o8 o9 o10 o11 c_seats c_wish u_above u_below u_full u_firsts u_freed)) (wc := (w_X8_findShares c_askers c_places c_whole c_ate c_eats c_leftOf c_seats c_wish u_above u_below u_full u_firsts u_freed)) (wc2 := (w_X8_findShares c_askers c_places o8 o9 o10 o11 c_seats c_wish u_above u_below u_full u_firsts u_freed)) (rest := []) (rv := []) [0, 1, 2, 3, 4, 5] [1000, 1001, 1002, 1003, 1004, 1005, 1006, 1007, 1008, 1009, 1010, 1011, 1012, 1013, 1014, 1015] [] [0, 1, 2, 3, 4, 5] (c_X8_findShares hc12) cw_X8_findShares m_X8_232 dX8_envies_25 rfl ⟨leb rfl, leb rfl⟩ ⟨rfl, rfl⟩ rfl ⟨_, rfl, rfl⟩ (Fit.mk rfl rfl rfl) rfl (leb rfl) (ROsub.nil rfl rfl) rfl ?_
        change GG _ _ _ _ _ _ _ _ _ (w_X8_envies c_askers c_places o8 o9 o10 o11 c_seats c_wish u_above u_below u_full u_firsts u_freed) [some (.ref 0), some (.int a1), some (.int a2), none, none, none, none, none, none] []
        refine G_iconst 1 dX8_envies_28 (by decide) ?_
        refine G_istore_n dX8_envies_29 rfl (ltb rfl) ?_
        change GG _ _ _ _ _ _ _ _ _ _ [some (.ref 0), some (.int a1), some (.int a2), some (.int 1), none, none, none, none, none] _
        exact g_X8_envies_30 N hf
      · replace hf := ob_t h7 hf
        refine G_bipush (-2 : Int32) dX8_envies_21 (by decide) ?_
        obtain rfl := os hf
        exact G_ireturn dX8_envies_23 rfl
set_option maxRecDepth 20000 in
theorem dX8_countOf_0 : decode cX8_countOf 0 = .ok (.iconst 0, 1) := by decide +kernel
set_option maxRecDepth 20000 in
theorem dX8_countOf_1 : decode cX8_countOf 1 = .ok (.istore_n 2, 1) := by decide +kernel
set_option maxRecDepth 20000 in
theorem dX8_countOf_2 : decode cX8_countOf 2 = .ok (.iconst 0, 1) := by decide +kernel
set_option maxRecDepth 20000 in
theorem dX8_countOf_3 : decode cX8_countOf 3 = .ok (.istore_n 3, 1) := by decide +kernel
set_option maxRecDepth 20000 in
theorem dX8_countOf_4 : decode cX8_countOf 4 = .ok (.iload_n 3, 1) := by decide +kernel
set_option maxRecDepth 20000 in
theorem dX8_countOf_5 : decode cX8_countOf 5 = .ok (.aload_n 0, 1) := by decide +kernel
set_option maxRecDepth 20000 in
theorem dX8_countOf_6 : decode cX8_countOf 6 = .ok (.getfield 97, 3) := by decide +kernel
set_option maxRecDepth 20000 in
theorem dX8_countOf_9 : decode cX8_countOf 9 = .ok (.if_icmp .ge 23, 3) := by decide +kernel
set_option maxRecDepth 20000 in
theorem dX8_countOf_12 : decode cX8_countOf 12 = .ok (.iload_n 1, 1) := by decide +kernel
set_option maxRecDepth 20000 in
theorem dX8_countOf_13 : decode cX8_countOf 13 = .ok (.iconst 2, 1) := by decide +kernel
set_option maxRecDepth 20000 in
theorem dX8_countOf_14 : decode cX8_countOf 14 = .ok (.if_icmp .ne 18, 3) := by decide +kernel
set_option maxRecDepth 20000 in
theorem dX8_countOf_17 : decode cX8_countOf 17 = .ok (.iload_n 2, 1) := by decide +kernel
set_option maxRecDepth 20000 in
theorem dX8_countOf_18 : decode cX8_countOf 18 = .ok (.aload_n 0, 1) := by decide +kernel
set_option maxRecDepth 20000 in
theorem dX8_countOf_19 : decode cX8_countOf 19 = .ok (.getfield 7, 3) := by decide +kernel
set_option maxRecDepth 20000 in
theorem dX8_countOf_22 : decode cX8_countOf 22 = .ok (.iload_n 3, 1) := by decide +kernel
set_option maxRecDepth 20000 in
theorem dX8_countOf_23 : decode cX8_countOf 23 = .ok (.iaload, 1) := by decide +kernel
set_option maxRecDepth 20000 in
theorem dX8_countOf_24 : decode cX8_countOf 24 = .ok (.iadd, 1) := by decide +kernel
set_option maxRecDepth 20000 in
theorem dX8_countOf_25 : decode cX8_countOf 25 = .ok (.istore_n 2, 1) := by decide +kernel
set_option maxRecDepth 20000 in
theorem dX8_countOf_26 : decode cX8_countOf 26 = .ok (.iinc 3 1, 3) := by decide +kernel
set_option maxRecDepth 20000 in
theorem dX8_countOf_29 : decode cX8_countOf 29 = .ok (.goto (-25), 3) := by decide +kernel
set_option maxRecDepth 20000 in
theorem dX8_countOf_32 : decode cX8_countOf 32 = .ok (.iconst 0, 1) := by decide +kernel
set_option maxRecDepth 20000 in
theorem dX8_countOf_33 : decode cX8_countOf 33 = .ok (.istore_n 3, 1) := by decide +kernel
set_option maxRecDepth 20000 in
theorem dX8_countOf_34 : decode cX8_countOf 34 = .ok (.iload_n 3, 1) := by decide +kernel
set_option maxRecDepth 20000 in
theorem dX8_countOf_35 : decode cX8_countOf 35 = .ok (.bipush 48, 2) := by decide +kernel
set_option maxRecDepth 20000 in
theorem dX8_countOf_37 : decode cX8_countOf 37 = .ok (.if_icmp .ge 31, 3) := by decide +kernel
set_option maxRecDepth 20000 in
theorem dX8_countOf_40 : decode cX8_countOf 40 = .ok (.iload_n 1, 1) := by decide +kernel
set_option maxRecDepth 20000 in
theorem dX8_countOf_41 : decode cX8_countOf 41 = .ok (.iconst 3, 1) := by decide +kernel
set_option maxRecDepth 20000 in
theorem dX8_countOf_42 : decode cX8_countOf 42 = .ok (.if_icmp .ne 26, 3) := by decide +kernel
set_option maxRecDepth 20000 in
theorem dX8_countOf_45 : decode cX8_countOf 45 = .ok (.iload_n 2, 1) := by decide +kernel
set_option maxRecDepth 20000 in
theorem dX8_countOf_46 : decode cX8_countOf 46 = .ok (.aload_n 0, 1) := by decide +kernel
set_option maxRecDepth 20000 in
theorem dX8_countOf_47 : decode cX8_countOf 47 = .ok (.getfield 13, 3) := by decide +kernel
set_option maxRecDepth 20000 in
theorem dX8_countOf_50 : decode cX8_countOf 50 = .ok (.iload_n 3, 1) := by decide +kernel
set_option maxRecDepth 20000 in
theorem dX8_countOf_51 : decode cX8_countOf 51 = .ok (.iaload, 1) := by decide +kernel
set_option maxRecDepth 20000 in
theorem dX8_countOf_52 : decode cX8_countOf 52 = .ok (.ifCond .le 7, 3) := by decide +kernel
set_option maxRecDepth 20000 in
theorem dX8_countOf_55 : decode cX8_countOf 55 = .ok (.iconst 1, 1) := by decide +kernel
set_option maxRecDepth 20000 in
theorem dX8_countOf_56 : decode cX8_countOf 56 = .ok (.goto 4, 3) := by decide +kernel
set_option maxRecDepth 20000 in
theorem dX8_countOf_59 : decode cX8_countOf 59 = .ok (.iconst 0, 1) := by decide +kernel
set_option maxRecDepth 20000 in
theorem dX8_countOf_60 : decode cX8_countOf 60 = .ok (.iadd, 1) := by decide +kernel
set_option maxRecDepth 20000 in
theorem dX8_countOf_61 : decode cX8_countOf 61 = .ok (.istore_n 2, 1) := by decide +kernel
set_option maxRecDepth 20000 in
theorem dX8_countOf_62 : decode cX8_countOf 62 = .ok (.iinc 3 1, 3) := by decide +kernel
set_option maxRecDepth 20000 in
theorem dX8_countOf_65 : decode cX8_countOf 65 = .ok (.goto (-31), 3) := by decide +kernel
set_option maxRecDepth 20000 in
theorem dX8_countOf_68 : decode cX8_countOf 68 = .ok (.iload_n 1, 1) := by decide +kernel
set_option maxRecDepth 20000 in
theorem dX8_countOf_69 : decode cX8_countOf 69 = .ok (.ifCond .ne 10, 3) := by decide +kernel
set_option maxRecDepth 20000 in
theorem dX8_countOf_72 : decode cX8_countOf 72 = .ok (.aload_n 0, 1) := by decide +kernel
set_option maxRecDepth 20000 in
theorem dX8_countOf_73 : decode cX8_countOf 73 = .ok (.getfield 89, 3) := by decide +kernel
set_option maxRecDepth 20000 in
theorem dX8_countOf_76 : decode cX8_countOf 76 = .ok (.goto 16, 3) := by decide +kernel
set_option maxRecDepth 20000 in
theorem dX8_countOf_79 : decode cX8_countOf 79 = .ok (.iload_n 1, 1) := by decide +kernel
set_option maxRecDepth 20000 in
theorem dX8_countOf_80 : decode cX8_countOf 80 = .ok (.iconst 1, 1) := by decide +kernel
set_option maxRecDepth 20000 in
theorem dX8_countOf_81 : decode cX8_countOf 81 = .ok (.if_icmp .ne 10, 3) := by decide +kernel
set_option maxRecDepth 20000 in
theorem dX8_countOf_84 : decode cX8_countOf 84 = .ok (.aload_n 0, 1) := by decide +kernel
set_option maxRecDepth 20000 in
theorem dX8_countOf_85 : decode cX8_countOf 85 = .ok (.getfield 97, 3) := by decide +kernel
set_option maxRecDepth 20000 in
theorem dX8_countOf_88 : decode cX8_countOf 88 = .ok (.goto 4, 3) := by decide +kernel
set_option maxRecDepth 20000 in
theorem dX8_countOf_91 : decode cX8_countOf 91 = .ok (.iload_n 2, 1) := by decide +kernel
set_option maxRecDepth 20000 in
theorem dX8_countOf_92 : decode cX8_countOf 92 = .ok (.ireturn, 1) := by decide +kernel
def f_X8_countOf_68 (N : Nat) (c_askers : Int32) (c_places : Int32) (c_seats : Nat → Int32) (c_wish : Nat → Int32) (v1 : Int32) (v2 : Int32) : Option (Int32) :=
    (if v1 = 0 then
      some c_askers
    else
      (if v1 = 1 then
        some c_places
      else
        some v2))
set_option maxHeartbeats 4000000 in
set_option maxRecDepth 100000 in
theorem g_X8_countOf_68 {κ : KC} {ω : KW} {A : Nat → Prop} {ad : Nat → Nat} {u_above : Int64} {u_below : Int64} {u_full : Int32} {u_firsts : Int32} {u_freed : Int32} {u_whole : Int64} {N : Nat} {c_askers : Int32} {c_places : Int32} {c_seats : Nat → Int32} {c_wish : Nat → Int32}  {res : Int32} {v1 : Int32} {v2 : Int32} (hf : f_X8_countOf_68 N c_askers c_places c_seats c_wish v1 v2 = some res) : GG mu_X8_countOf κ ω A (QR κ ω A ad (some (.int res)) (w_X8_countOf c_askers c_places c_seats c_wish u_above u_below u_full u_firsts u_freed u_whole)) ad 0 0 68 (w_X8_countOf c_askers c_places c_seats c_wish u_above u_below u_full u_firsts u_freed u_whole) [some (.ref 0), some (.int v1), some (.int v2), none] [] := by
  refine G_iload_n dX8_countOf_68 rfl rfl ?_
  refine G_if_ne 79 dX8_countOf_69 (by decide) (fun h1 => ?_) (fun h1 => ?_)
  · replace hf := ob_f h1 hf
    refine G_iload_n dX8_countOf_79 rfl rfl ?_
    refine G_iconst 1 dX8_countOf_80 (by decide) ?_
    refine G_icmp_ne 91 dX8_countOf_81 (by decide) (fun h2 => ?_) (fun h2 => ?_)
    · replace hf := ob_f h2 hf
      refine G_iload_n dX8_countOf_91 rfl rfl ?_
      obtain rfl := os hf
      exact G_ireturn dX8_countOf_92 rfl
    · replace hf := ob_t h2 hf
      refine G_aload_n dX8_countOf_84 rfl rfl ?_
      refine G_get (v := .int c_places) F_X8_97 dX8_countOf_85 rfl rfl ?_
      refine G_goto 92 dX8_countOf_88 (by decide) ?_
      obtain rfl := os hf
      exact G_ireturn dX8_countOf_92 rfl
  · replace hf := ob_t h1 hf
    refine G_aload_n dX8_countOf_72 rfl rfl ?_
    refine G_get (v := .int c_askers) F_X8_89 dX8_countOf_73 rfl rfl ?_
    refine G_goto 92 dX8_countOf_76 (by decide) ?_
    obtain rfl := os hf
    exact G_ireturn dX8_countOf_92 rfl
def f_X8_countOf_34 (N : Nat) (c_askers : Int32) (c_places : Int32) (c_seats : Nat → Int32) (c_wish : Nat → Int32) : Nat → Int32 → Int32 → Int32 → Option (Int32)
  | 0, _, _, _ => none
  | n + 1, v1, v2, v3 =>
    (if 48 ≤ v3 then
      f_X8_countOf_68 N c_askers c_places c_seats c_wish v1 v2
    else
      (if v1 = 3 then
        (rdI 48 c_wish v3).bind fun t3 =>
        (if t3 ≤ 0 then
          f_X8_countOf_34 N c_askers c_places c_seats c_wish n v1 (v2 + 0) (v3 + 1)
        else
          f_X8_countOf_34 N c_askers c_places c_seats c_wish n v1 (v2 + 1) (v3 + 1))
      else
        f_X8_countOf_68 N c_askers c_places c_seats c_wish v1 v2))
set_option maxHeartbeats 4000000 in
set_option maxRecDepth 100000 in
theorem g_X8_countOf_34 {κ : KC} {ω : KW} {A : Nat → Prop} {ad : Nat → Nat} {u_above : Int64} {u_below : Int64} {u_full : Int32} {u_firsts : Int32} {u_freed : Int32} {u_whole : Int64} {N : Nat} {c_askers : Int32} {c_places : Int32} {c_seats : Nat → Int32} {c_wish : Nat → Int32}  {res : Int32} : ∀ (n : Nat) {v1 : Int32} {v2 : Int32} {v3 : Int32}, f_X8_countOf_34 N c_askers c_places c_seats c_wish n v1 v2 v3 = some res → GG mu_X8_countOf κ ω A (QR κ ω A ad (some (.int res)) (w_X8_countOf c_askers c_places c_seats c_wish u_above u_below u_full u_firsts u_freed u_whole)) ad 0 0 34 (w_X8_countOf c_askers c_places c_seats c_wish u_above u_below u_full u_firsts u_freed u_whole) [some (.ref 0), some (.int v1), some (.int v2), some (.int v3)] [] := by
  intro n
  induction n with
  | zero => intro v1 v2 v3 hf; exact ob_0 hf
  | succ n ih =>
    intro v1 v2 v3 hf
    refine G_iload_n dX8_countOf_34 rfl rfl ?_
    refine G_bipush 48 dX8_countOf_35 (by decide) ?_
    refine G_icmp_ge 68 dX8_countOf_37 (by decide) (fun h1 => ?_) (fun h1 => ?_)
    · replace hf := ob_t h1 hf
      refine GG.sb (lv2 := [some (.ref 0), some (.int v1), some (.int v2), none]) ?_ (lvS_v rfl (lvS_v rfl (lvS_v rfl (lvS_n (lvS_e)))))
      exact g_X8_countOf_68 hf
    · replace hf := ob_f h1 hf
      refine G_iload_n dX8_countOf_40 rfl rfl ?_
      refine G_iconst 3 dX8_countOf_41 (by decide) ?_
      refine G_icmp_ne 68 dX8_countOf_42 (by decide) (fun h2 => ?_) (fun h2 => ?_)
      · replace hf := ob_f h2 hf
        refine GG.sb (lv2 := [some (.ref 0), some (.int v1), some (.int v2), none]) ?_ (lvS_v rfl (lvS_v rfl (lvS_v rfl (lvS_n (lvS_e)))))
        exact g_X8_countOf_68 hf
      · replace hf := ob_t h2 hf
        refine G_iload_n dX8_countOf_45 rfl rfl ?_
        refine G_aload_n dX8_countOf_46 rfl rfl ?_
        refine G_get (v := .ref 2) F_X8_13 dX8_countOf_47 rfl rfl ?_
        refine G_iload_n dX8_countOf_50 rfl rfl ?_
        obtain ⟨t3, ht3, hf⟩ := ob hf
        refine G_iald dX8_countOf_51 rfl ht3 ?_
        refine G_if_le 59 dX8_countOf_52 (by decide) (fun h4 => ?_) (fun h4 => ?_)
        · replace hf := ob_t h4 hf
          refine G_iconst 0 dX8_countOf_59 (by decide) ?_
          refine G_iadd dX8_countOf_60 ?_
          refine G_istore_n dX8_countOf_61 rfl (ltb rfl) ?_
          change GG _ _ _ _ _ _ _ _ _ _ [some (.ref 0), some (.int v1), some (.int (v2 + 0)), some (.int v3)] _
          refine G_iinc 1 dX8_countOf_62 (by decide) rfl (ltb rfl) ?_
          change GG _ _ _ _ _ _ _ _ _ _ [some (.ref 0), some (.int v1), some (.int (v2 + 0)), some (.int (v3 + 1))] _
          refine G_goto 34 dX8_countOf_65 (by decide) ?_
          exact ih hf
        · replace hf := ob_f h4 hf
          refine G_iconst 1 dX8_countOf_55 (by decide) ?_
          refine G_goto 60 dX8_countOf_56 (by decide) ?_
          refine G_iadd dX8_countOf_60 ?_
          refine G_istore_n dX8_countOf_61 rfl (ltb rfl) ?_
          change GG _ _ _ _ _ _ _ _ _ _ [some (.ref 0), some (.int v1), some (.int (v2 + 1)), some (.int v3)] _
          refine G_iinc 1 dX8_countOf_62 (by decide) rfl (ltb rfl) ?_
          change GG _ _ _ _ _ _ _ _ _ _ [some (.ref 0), some (.int v1), some (.int (v2 + 1)), some (.int (v3 + 1))] _
          refine G_goto 34 dX8_countOf_65 (by decide) ?_
          exact ih hf
def f_X8_countOf_32 (N : Nat) (c_askers : Int32) (c_places : Int32) (c_seats : Nat → Int32) (c_wish : Nat → Int32) (v1 : Int32) (v2 : Int32) : Option (Int32) :=
    f_X8_countOf_34 N c_askers c_places c_seats c_wish N v1 v2 0
set_option maxHeartbeats 4000000 in
set_option maxRecDepth 100000 in
theorem g_X8_countOf_32 {κ : KC} {ω : KW} {A : Nat → Prop} {ad : Nat → Nat} {u_above : Int64} {u_below : Int64} {u_full : Int32} {u_firsts : Int32} {u_freed : Int32} {u_whole : Int64} {N : Nat} {c_askers : Int32} {c_places : Int32} {c_seats : Nat → Int32} {c_wish : Nat → Int32}  {res : Int32} {v1 : Int32} {v2 : Int32} (hf : f_X8_countOf_32 N c_askers c_places c_seats c_wish v1 v2 = some res) : GG mu_X8_countOf κ ω A (QR κ ω A ad (some (.int res)) (w_X8_countOf c_askers c_places c_seats c_wish u_above u_below u_full u_firsts u_freed u_whole)) ad 0 0 32 (w_X8_countOf c_askers c_places c_seats c_wish u_above u_below u_full u_firsts u_freed u_whole) [some (.ref 0), some (.int v1), some (.int v2), none] [] := by
  refine G_iconst 0 dX8_countOf_32 (by decide) ?_
  refine G_istore_n dX8_countOf_33 rfl (ltb rfl) ?_
  change GG _ _ _ _ _ _ _ _ _ _ [some (.ref 0), some (.int v1), some (.int v2), some (.int 0)] _
  exact g_X8_countOf_34 N hf
def f_X8_countOf_4 (N : Nat) (c_askers : Int32) (c_places : Int32) (c_seats : Nat → Int32) (c_wish : Nat → Int32) : Nat → Int32 → Int32 → Int32 → Option (Int32)
  | 0, _, _, _ => none
  | n + 1, v1, v2, v3 =>
    (if c_places ≤ v3 then
      f_X8_countOf_32 N c_askers c_places c_seats c_wish v1 v2
    else
      (if v1 = 2 then
        (rdI 6 c_seats v3).bind fun t3 =>
        f_X8_countOf_4 N c_askers c_places c_seats c_wish n v1 (v2 + t3) (v3 + 1)
      else
        f_X8_countOf_32 N c_askers c_places c_seats c_wish v1 v2))
set_option maxHeartbeats 4000000 in
set_option maxRecDepth 100000 in
theorem g_X8_countOf_4 {κ : KC} {ω : KW} {A : Nat → Prop} {ad : Nat → Nat} {u_above : Int64} {u_below : Int64} {u_full : Int32} {u_firsts : Int32} {u_freed : Int32} {u_whole : Int64} {N : Nat} {c_askers : Int32} {c_places : Int32} {c_seats : Nat → Int32} {c_wish : Nat → Int32}  {res : Int32} : ∀ (n : Nat) {v1 : Int32} {v2 : Int32} {v3 : Int32}, f_X8_countOf_4 N c_askers c_places c_seats c_wish n v1 v2 v3 = some res → GG mu_X8_countOf κ ω A (QR κ ω A ad (some (.int res)) (w_X8_countOf c_askers c_places c_seats c_wish u_above u_below u_full u_firsts u_freed u_whole)) ad 0 0 4 (w_X8_countOf c_askers c_places c_seats c_wish u_above u_below u_full u_firsts u_freed u_whole) [some (.ref 0), some (.int v1), some (.int v2), some (.int v3)] [] := by
  intro n
  induction n with
  | zero => intro v1 v2 v3 hf; exact ob_0 hf
  | succ n ih =>
    intro v1 v2 v3 hf
    refine G_iload_n dX8_countOf_4 rfl rfl ?_
    refine G_aload_n dX8_countOf_5 rfl rfl ?_
    refine G_get (v := .int c_places) F_X8_97 dX8_countOf_6 rfl rfl ?_
    refine G_icmp_ge 32 dX8_countOf_9 (by decide) (fun h1 => ?_) (fun h1 => ?_)
    · replace hf := ob_t h1 hf
      refine GG.sb (lv2 := [some (.ref 0), some (.int v1), some (.int v2), none]) ?_ (lvS_v rfl (lvS_v rfl (lvS_v rfl (lvS_n (lvS_e)))))
      exact g_X8_countOf_32 hf
    · replace hf := ob_f h1 hf
      refine G_iload_n dX8_countOf_12 rfl rfl ?_
      refine G_iconst 2 dX8_countOf_13 (by decide) ?_
      refine G_icmp_ne 32 dX8_countOf_14 (by decide) (fun h2 => ?_) (fun h2 => ?_)
      · replace hf := ob_f h2 hf
        refine GG.sb (lv2 := [some (.ref 0), some (.int v1), some (.int v2), none]) ?_ (lvS_v rfl (lvS_v rfl (lvS_v rfl (lvS_n (lvS_e)))))
        exact g_X8_countOf_32 hf
      · replace hf := ob_t h2 hf
        refine G_iload_n dX8_countOf_17 rfl rfl ?_
        refine G_aload_n dX8_countOf_18 rfl rfl ?_
        refine G_get (v := .ref 1) F_X8_7 dX8_countOf_19 rfl rfl ?_
        refine G_iload_n dX8_countOf_22 rfl rfl ?_
        obtain ⟨t3, ht3, hf⟩ := ob hf
        refine G_iald dX8_countOf_23 rfl ht3 ?_
        refine G_iadd dX8_countOf_24 ?_
        refine G_istore_n dX8_countOf_25 rfl (ltb rfl) ?_
        change GG _ _ _ _ _ _ _ _ _ _ [some (.ref 0), some (.int v1), some (.int (v2 + t3)), some (.int v3)] _
        refine G_iinc 1 dX8_countOf_26 (by decide) rfl (ltb rfl) ?_
        change GG _ _ _ _ _ _ _ _ _ _ [some (.ref 0), some (.int v1), some (.int (v2 + t3)), some (.int (v3 + 1))] _
        refine G_goto 4 dX8_countOf_29 (by decide) ?_
        exact ih hf
def f_X8_countOf (N : Nat) (c_askers : Int32) (c_places : Int32) (c_seats : Nat → Int32) (c_wish : Nat → Int32) (a1 : Int32) : Option (Int32) :=
  f_X8_countOf_4 N c_askers c_places c_seats c_wish N a1 0 0
set_option maxHeartbeats 4000000 in
set_option maxRecDepth 100000 in
theorem c_X8_countOf {N : Nat} {c_askers : Int32} {c_places : Int32} {c_seats : Nat → Int32} {c_wish : Nat → Int32}  {u_above : Int64} {u_below : Int64} {u_full : Int32} {u_firsts : Int32} {u_freed : Int32} {u_whole : Int64} {a1 : Int32} {res : Int32} (hf : f_X8_countOf N c_askers c_places c_seats c_wish a1 = some res) : Con mu_X8_countOf [.ref 0, .int a1] (w_X8_countOf c_askers c_places c_seats c_wish u_above u_below u_full u_firsts u_freed u_whole) (some (.int res)) (w_X8_countOf c_askers c_places c_seats c_wish u_above u_below u_full u_firsts u_freed u_whole) := by
  refine Con.mk (show plainName RX8 = true by decide +kernel) (leb rfl) (fun κ ω A ad => ?_)
  change GG mu_X8_countOf κ ω A (QR κ ω A ad (some (.int res)) (w_X8_countOf c_askers c_places c_seats c_wish u_above u_below u_full u_firsts u_freed u_whole)) ad 0 0 0 (w_X8_countOf c_askers c_places c_seats c_wish u_above u_below u_full u_firsts u_freed u_whole) [some (.ref 0), some (.int a1), none, none] []
  refine G_iconst 0 dX8_countOf_0 (by decide) ?_
  refine G_istore_n dX8_countOf_1 rfl (ltb rfl) ?_
  change GG _ _ _ _ _ _ _ _ _ _ [some (.ref 0), some (.int a1), some (.int 0), none] _
  refine G_iconst 0 dX8_countOf_2 (by decide) ?_
  refine G_istore_n dX8_countOf_3 rfl (ltb rfl) ?_
  change GG _ _ _ _ _ _ _ _ _ _ [some (.ref 0), some (.int a1), some (.int 0), some (.int 0)] _
  exact g_X8_countOf_4 N hf
set_option maxRecDepth 20000 in
theorem dX8_count_0 : decode cX8_count 0 = .ok (.iload_n 1, 1) := by decide +kernel
set_option maxRecDepth 20000 in
theorem dX8_count_1 : decode cX8_count 1 = .ok (.iconst 0, 1) := by decide +kernel
set_option maxRecDepth 20000 in
theorem dX8_count_2 : decode cX8_count 2 = .ok (.iconst 3, 1) := by decide +kernel
set_option maxRecDepth 20000 in
theorem dX8_count_3 : decode cX8_count 3 = .ok (.invokestatic 93, 3) := by decide +kernel
set_option maxRecDepth 20000 in
theorem dX8_count_6 : decode cX8_count 6 = .ok (.ifCond .eq 11, 3) := by decide +kernel
set_option maxRecDepth 20000 in
theorem dX8_count_9 : decode cX8_count 9 = .ok (.aload_n 0, 1) := by decide +kernel
set_option maxRecDepth 20000 in
theorem dX8_count_10 : decode cX8_count 10 = .ok (.iload_n 1, 1) := by decide +kernel
set_option maxRecDepth 20000 in
theorem dX8_count_11 : decode cX8_count 11 = .ok (.invokevirtual 235, 3) := by decide +kernel
set_option maxRecDepth 20000 in
theorem dX8_count_14 : decode cX8_count 14 = .ok (.goto 5, 3) := by decide +kernel
set_option maxRecDepth 20000 in
theorem dX8_count_17 : decode cX8_count 17 = .ok (.bipush (-2), 2) := by decide +kernel
set_option maxRecDepth 20000 in
theorem dX8_count_19 : decode cX8_count 19 = .ok (.ireturn, 1) := by decide +kernel
def f_X8_count (N : Nat) (c_askers : Int32) (c_places : Int32) (c_seats : Nat → Int32) (c_wish : Nat → Int32) (a1 : Int32) : Option (Int32) :=
  (f_X8_in N a1 0 3).bind fun r1 =>
  (if r1 = 0 then
    some (-2 : Int32)
  else
    (f_X8_countOf N c_askers c_places c_seats c_wish a1).bind fun r4 =>
    some r4)
set_option maxHeartbeats 4000000 in
set_option maxRecDepth 100000 in
theorem c_X8_count {N : Nat} {c_askers : Int32} {c_places : Int32} {c_seats : Nat → Int32} {c_wish : Nat → Int32}  {u_above : Int64} {u_below : Int64} {u_full : Int32} {u_firsts : Int32} {u_freed : Int32} {u_whole : Int64} {a1 : Int32} {res : Int32} (hf : f_X8_count N c_askers c_places c_seats c_wish a1 = some res) : Con mu_X8_count [.ref 0, .int a1] (w_X8_count c_askers c_places c_seats c_wish u_above u_below u_full u_firsts u_freed u_whole) (some (.int res)) (w_X8_count c_askers c_places c_seats c_wish u_above u_below u_full u_firsts u_freed u_whole) := by
  refine Con.mk (show plainName RX8 = true by decide +kernel) (leb rfl) (fun κ ω A ad => ?_)
  change GG mu_X8_count κ ω A (QR κ ω A ad (some (.int res)) (w_X8_count c_askers c_places c_seats c_wish u_above u_below u_full u_firsts u_freed u_whole)) ad 0 0 0 (w_X8_count c_askers c_places c_seats c_wish u_above u_below u_full u_firsts u_freed u_whole) [some (.ref 0), some (.int a1)] []
  refine G_iload_n dX8_count_0 rfl rfl ?_
  refine G_iconst 0 dX8_count_1 (by decide) ?_
  refine G_iconst 3 dX8_count_2 (by decide) ?_
  obtain ⟨r1, hc2, hf⟩ := ob hf
  refine G_callS (μ2 := mu_X8_in) (As := [.int a1, .int 0, .int 3]) (w2 := (w_X8_count c_askers c_places c_seats c_wish u_above u_below u_full u_firsts u_freed u_whole)) (wc := []) (wc2 := []) (rest := []) (rv := [.int r1]) [] [] [0, 1, 2] [0, 1, 2] (c_X8_in hc2) cw_X8_in m_X8_93 rfl dX8_count_3 rfl ⟨leb rfl, leb rfl⟩ ⟨rfl, rfl⟩ (Fit.mk rfl rfl rfl) rfl (leb rfl) (ROsub.nil rfl rfl) rfl ?_
  change GG _ _ _ _ _ _ _ _ _ (w_X8_count c_askers c_places c_seats c_wish u_above u_below u_full u_firsts u_freed u_whole) [some (.ref 0), some (.int a1)] [.int r1]
  refine G_if_eq 17 dX8_count_6 (by decide) (fun h3 => ?_) (fun h3 => ?_)
  · replace hf := ob_t h3 hf
    refine G_bipush (-2 : Int32) dX8_count_17 (by decide) ?_
    obtain rfl := os hf
    exact G_ireturn dX8_count_19 rfl
  · replace hf := ob_f h3 hf
    refine G_aload_n dX8_count_9 rfl rfl ?_
    refine G_iload_n dX8_count_10 rfl rfl ?_
    obtain ⟨r4, hc5, hf⟩ := ob hf
    refine G_callV (μ2 := mu_X8_countOf) (As := [.int a1]) (w2 := (w_X8_count c_askers c_places c_seats c_wish u_above u_below u_full u_firsts u_freed u_whole)) (wc := (w_X8_countOf c_askers c_places c_seats c_wish u_above u_below u_full u_firsts u_freed u_whole)) (wc2 := (w_X8_countOf c_askers c_places c_seats c_wish u_above u_below u_full u_firsts u_freed u_whole)) (rest := []) (rv := [.int r4]) [0, 1, 2] [1000, 1001, 1002, 1003, 1004, 1005, 1006, 1007, 1008, 1009, 1010, 1011, 1012, 1013, 1014, 1015, 1016, 1017, 1018] [] [0, 1, 2] (c_X8_countOf hc5) cw_X8_countOf m_X8_235 dX8_count_11 rfl ⟨leb rfl, leb rfl⟩ ⟨rfl, rfl⟩ rfl ⟨_, rfl, rfl⟩ (Fit.mk rfl rfl rfl) rfl (leb rfl) (ROsub.nil rfl rfl) rfl ?_
    change GG _ _ _ _ _ _ _ _ _ (w_X8_count c_askers c_places c_seats c_wish u_above u_below u_full u_firsts u_freed u_whole) [some (.ref 0), some (.int a1)] [.int r4]
    refine G_goto 19 dX8_count_14 (by decide) ?_
    obtain rfl := os hf
    exact G_ireturn dX8_count_19 rfl
set_option maxRecDepth 20000 in
theorem dX8_digest_0 : decode cX8_digest 0 = .ok (.ldc2_w 238, 3) := by decide +kernel
set_option maxRecDepth 20000 in
theorem dX8_digest_3 : decode cX8_digest 3 = .ok (.lstore_n 1, 1) := by decide +kernel
set_option maxRecDepth 20000 in
theorem dX8_digest_4 : decode cX8_digest 4 = .ok (.iconst 0, 1) := by decide +kernel
set_option maxRecDepth 20000 in
theorem dX8_digest_5 : decode cX8_digest 5 = .ok (.istore_n 3, 1) := by decide +kernel
set_option maxRecDepth 20000 in
theorem dX8_digest_6 : decode cX8_digest 6 = .ok (.iload_n 3, 1) := by decide +kernel
set_option maxRecDepth 20000 in
theorem dX8_digest_7 : decode cX8_digest 7 = .ok (.iconst 4, 1) := by decide +kernel
set_option maxRecDepth 20000 in
theorem dX8_digest_8 : decode cX8_digest 8 = .ok (.if_icmp .ge 22, 3) := by decide +kernel
set_option maxRecDepth 20000 in
theorem dX8_digest_11 : decode cX8_digest 11 = .ok (.ldc2_w 240, 3) := by decide +kernel
set_option maxRecDepth 20000 in
theorem dX8_digest_14 : decode cX8_digest 14 = .ok (.lload_n 1, 1) := by decide +kernel
set_option maxRecDepth 20000 in
theorem dX8_digest_15 : decode cX8_digest 15 = .ok (.lmul, 1) := by decide +kernel
set_option maxRecDepth 20000 in
theorem dX8_digest_16 : decode cX8_digest 16 = .ok (.aload_n 0, 1) := by decide +kernel
set_option maxRecDepth 20000 in
theorem dX8_digest_17 : decode cX8_digest 17 = .ok (.iload_n 3, 1) := by decide +kernel
set_option maxRecDepth 20000 in
theorem dX8_digest_18 : decode cX8_digest 18 = .ok (.invokevirtual 235, 3) := by decide +kernel
set_option maxRecDepth 20000 in
theorem dX8_digest_21 : decode cX8_digest 21 = .ok (.i2l, 1) := by decide +kernel
set_option maxRecDepth 20000 in
theorem dX8_digest_22 : decode cX8_digest 22 = .ok (.ladd, 1) := by decide +kernel
set_option maxRecDepth 20000 in
theorem dX8_digest_23 : decode cX8_digest 23 = .ok (.lstore_n 1, 1) := by decide +kernel
set_option maxRecDepth 20000 in
theorem dX8_digest_24 : decode cX8_digest 24 = .ok (.iinc 3 1, 3) := by decide +kernel
set_option maxRecDepth 20000 in
theorem dX8_digest_27 : decode cX8_digest 27 = .ok (.goto (-21), 3) := by decide +kernel
set_option maxRecDepth 20000 in
theorem dX8_digest_30 : decode cX8_digest 30 = .ok (.iconst 0, 1) := by decide +kernel
set_option maxRecDepth 20000 in
theorem dX8_digest_31 : decode cX8_digest 31 = .ok (.istore_n 3, 1) := by decide +kernel
set_option maxRecDepth 20000 in
theorem dX8_digest_32 : decode cX8_digest 32 = .ok (.iload_n 3, 1) := by decide +kernel
set_option maxRecDepth 20000 in
theorem dX8_digest_33 : decode cX8_digest 33 = .ok (.aload_n 0, 1) := by decide +kernel
set_option maxRecDepth 20000 in
theorem dX8_digest_34 : decode cX8_digest 34 = .ok (.getfield 97, 3) := by decide +kernel
set_option maxRecDepth 20000 in
theorem dX8_digest_37 : decode cX8_digest 37 = .ok (.if_icmp .ge 23, 3) := by decide +kernel
set_option maxRecDepth 20000 in
theorem dX8_digest_40 : decode cX8_digest 40 = .ok (.ldc2_w 240, 3) := by decide +kernel
set_option maxRecDepth 20000 in
theorem dX8_digest_43 : decode cX8_digest 43 = .ok (.lload_n 1, 1) := by decide +kernel
set_option maxRecDepth 20000 in
theorem dX8_digest_44 : decode cX8_digest 44 = .ok (.lmul, 1) := by decide +kernel
set_option maxRecDepth 20000 in
theorem dX8_digest_45 : decode cX8_digest 45 = .ok (.aload_n 0, 1) := by decide +kernel
set_option maxRecDepth 20000 in
theorem dX8_digest_46 : decode cX8_digest 46 = .ok (.getfield 7, 3) := by decide +kernel
set_option maxRecDepth 20000 in
theorem dX8_digest_49 : decode cX8_digest 49 = .ok (.iload_n 3, 1) := by decide +kernel
set_option maxRecDepth 20000 in
theorem dX8_digest_50 : decode cX8_digest 50 = .ok (.iaload, 1) := by decide +kernel
set_option maxRecDepth 20000 in
theorem dX8_digest_51 : decode cX8_digest 51 = .ok (.i2l, 1) := by decide +kernel
set_option maxRecDepth 20000 in
theorem dX8_digest_52 : decode cX8_digest 52 = .ok (.ladd, 1) := by decide +kernel
set_option maxRecDepth 20000 in
theorem dX8_digest_53 : decode cX8_digest 53 = .ok (.lstore_n 1, 1) := by decide +kernel
set_option maxRecDepth 20000 in
theorem dX8_digest_54 : decode cX8_digest 54 = .ok (.iinc 3 1, 3) := by decide +kernel
set_option maxRecDepth 20000 in
theorem dX8_digest_57 : decode cX8_digest 57 = .ok (.goto (-25), 3) := by decide +kernel
set_option maxRecDepth 20000 in
theorem dX8_digest_60 : decode cX8_digest 60 = .ok (.iconst 0, 1) := by decide +kernel
set_option maxRecDepth 20000 in
theorem dX8_digest_61 : decode cX8_digest 61 = .ok (.istore_n 3, 1) := by decide +kernel
set_option maxRecDepth 20000 in
theorem dX8_digest_62 : decode cX8_digest 62 = .ok (.iload_n 3, 1) := by decide +kernel
set_option maxRecDepth 20000 in
theorem dX8_digest_63 : decode cX8_digest 63 = .ok (.aload_n 0, 1) := by decide +kernel
set_option maxRecDepth 20000 in
theorem dX8_digest_64 : decode cX8_digest 64 = .ok (.getfield 89, 3) := by decide +kernel
set_option maxRecDepth 20000 in
theorem dX8_digest_67 : decode cX8_digest 67 = .ok (.if_icmp .ge 47, 3) := by decide +kernel
set_option maxRecDepth 20000 in
theorem dX8_digest_70 : decode cX8_digest 70 = .ok (.iconst 0, 1) := by decide +kernel
set_option maxRecDepth 20000 in
theorem dX8_digest_71 : decode cX8_digest 71 = .ok (.istore 4, 2) := by decide +kernel
set_option maxRecDepth 20000 in
theorem dX8_digest_73 : decode cX8_digest 73 = .ok (.iload 4, 2) := by decide +kernel
set_option maxRecDepth 20000 in
theorem dX8_digest_75 : decode cX8_digest 75 = .ok (.aload_n 0, 1) := by decide +kernel
set_option maxRecDepth 20000 in
theorem dX8_digest_76 : decode cX8_digest 76 = .ok (.getfield 97, 3) := by decide +kernel
set_option maxRecDepth 20000 in
theorem dX8_digest_79 : decode cX8_digest 79 = .ok (.if_icmp .ge 29, 3) := by decide +kernel
set_option maxRecDepth 20000 in
theorem dX8_digest_82 : decode cX8_digest 82 = .ok (.ldc2_w 240, 3) := by decide +kernel
set_option maxRecDepth 20000 in
theorem dX8_digest_85 : decode cX8_digest 85 = .ok (.lload_n 1, 1) := by decide +kernel
set_option maxRecDepth 20000 in
theorem dX8_digest_86 : decode cX8_digest 86 = .ok (.lmul, 1) := by decide +kernel
set_option maxRecDepth 20000 in
theorem dX8_digest_87 : decode cX8_digest 87 = .ok (.aload_n 0, 1) := by decide +kernel
set_option maxRecDepth 20000 in
theorem dX8_digest_88 : decode cX8_digest 88 = .ok (.getfield 13, 3) := by decide +kernel
set_option maxRecDepth 20000 in
theorem dX8_digest_91 : decode cX8_digest 91 = .ok (.bipush 6, 2) := by decide +kernel
set_option maxRecDepth 20000 in
theorem dX8_digest_93 : decode cX8_digest 93 = .ok (.iload_n 3, 1) := by decide +kernel
set_option maxRecDepth 20000 in
theorem dX8_digest_94 : decode cX8_digest 94 = .ok (.imul, 1) := by decide +kernel
set_option maxRecDepth 20000 in
theorem dX8_digest_95 : decode cX8_digest 95 = .ok (.iload 4, 2) := by decide +kernel
set_option maxRecDepth 20000 in
theorem dX8_digest_97 : decode cX8_digest 97 = .ok (.iadd, 1) := by decide +kernel
set_option maxRecDepth 20000 in
theorem dX8_digest_98 : decode cX8_digest 98 = .ok (.iaload, 1) := by decide +kernel
set_option maxRecDepth 20000 in
theorem dX8_digest_99 : decode cX8_digest 99 = .ok (.i2l, 1) := by decide +kernel
set_option maxRecDepth 20000 in
theorem dX8_digest_100 : decode cX8_digest 100 = .ok (.ladd, 1) := by decide +kernel
set_option maxRecDepth 20000 in
theorem dX8_digest_101 : decode cX8_digest 101 = .ok (.lstore_n 1, 1) := by decide +kernel
set_option maxRecDepth 20000 in
theorem dX8_digest_102 : decode cX8_digest 102 = .ok (.iinc 4 1, 3) := by decide +kernel
set_option maxRecDepth 20000 in
theorem dX8_digest_105 : decode cX8_digest 105 = .ok (.goto (-32), 3) := by decide +kernel
set_option maxRecDepth 20000 in
theorem dX8_digest_108 : decode cX8_digest 108 = .ok (.iinc 3 1, 3) := by decide +kernel
set_option maxRecDepth 20000 in
theorem dX8_digest_111 : decode cX8_digest 111 = .ok (.goto (-49), 3) := by decide +kernel
set_option maxRecDepth 20000 in
theorem dX8_digest_114 : decode cX8_digest 114 = .ok (.iconst 0, 1) := by decide +kernel
set_option maxRecDepth 20000 in
theorem dX8_digest_115 : decode cX8_digest 115 = .ok (.istore_n 3, 1) := by decide +kernel
set_option maxRecDepth 20000 in
theorem dX8_digest_116 : decode cX8_digest 116 = .ok (.iload_n 3, 1) := by decide +kernel
set_option maxRecDepth 20000 in
theorem dX8_digest_117 : decode cX8_digest 117 = .ok (.iconst 4, 1) := by decide +kernel
set_option maxRecDepth 20000 in
theorem dX8_digest_118 : decode cX8_digest 118 = .ok (.if_icmp .ge 49, 3) := by decide +kernel
set_option maxRecDepth 20000 in
theorem dX8_digest_121 : decode cX8_digest 121 = .ok (.iconst 0, 1) := by decide +kernel
set_option maxRecDepth 20000 in
theorem dX8_digest_122 : decode cX8_digest 122 = .ok (.istore 4, 2) := by decide +kernel
set_option maxRecDepth 20000 in
theorem dX8_digest_124 : decode cX8_digest 124 = .ok (.iload 4, 2) := by decide +kernel
set_option maxRecDepth 20000 in
theorem dX8_digest_126 : decode cX8_digest 126 = .ok (.aload_n 0, 1) := by decide +kernel
set_option maxRecDepth 20000 in
theorem dX8_digest_127 : decode cX8_digest 127 = .ok (.getfield 89, 3) := by decide +kernel
set_option maxRecDepth 20000 in
theorem dX8_digest_130 : decode cX8_digest 130 = .ok (.if_icmp .ge 31, 3) := by decide +kernel
set_option maxRecDepth 20000 in
theorem dX8_digest_133 : decode cX8_digest 133 = .ok (.ldc2_w 240, 3) := by decide +kernel
set_option maxRecDepth 20000 in
theorem dX8_digest_136 : decode cX8_digest 136 = .ok (.lload_n 1, 1) := by decide +kernel
set_option maxRecDepth 20000 in
theorem dX8_digest_137 : decode cX8_digest 137 = .ok (.lmul, 1) := by decide +kernel
set_option maxRecDepth 20000 in
theorem dX8_digest_138 : decode cX8_digest 138 = .ok (.aload_n 0, 1) := by decide +kernel
set_option maxRecDepth 20000 in
theorem dX8_digest_139 : decode cX8_digest 139 = .ok (.getfield 16, 3) := by decide +kernel
set_option maxRecDepth 20000 in
theorem dX8_digest_142 : decode cX8_digest 142 = .ok (.bipush 8, 2) := by decide +kernel
set_option maxRecDepth 20000 in
theorem dX8_digest_144 : decode cX8_digest 144 = .ok (.iload_n 3, 1) := by decide +kernel
set_option maxRecDepth 20000 in
theorem dX8_digest_145 : decode cX8_digest 145 = .ok (.imul, 1) := by decide +kernel
set_option maxRecDepth 20000 in
theorem dX8_digest_146 : decode cX8_digest 146 = .ok (.iload 4, 2) := by decide +kernel
set_option maxRecDepth 20000 in
theorem dX8_digest_148 : decode cX8_digest 148 = .ok (.iadd, 1) := by decide +kernel
set_option maxRecDepth 20000 in
theorem dX8_digest_149 : decode cX8_digest 149 = .ok (.iaload, 1) := by decide +kernel
set_option maxRecDepth 20000 in
theorem dX8_digest_150 : decode cX8_digest 150 = .ok (.i2l, 1) := by decide +kernel
set_option maxRecDepth 20000 in
theorem dX8_digest_151 : decode cX8_digest 151 = .ok (.ladd, 1) := by decide +kernel
set_option maxRecDepth 20000 in
theorem dX8_digest_152 : decode cX8_digest 152 = .ok (.lconst 1, 1) := by decide +kernel
set_option maxRecDepth 20000 in
theorem dX8_digest_153 : decode cX8_digest 153 = .ok (.lsub, 1) := by decide +kernel
set_option maxRecDepth 20000 in
theorem dX8_digest_154 : decode cX8_digest 154 = .ok (.lstore_n 1, 1) := by decide +kernel
set_option maxRecDepth 20000 in
theorem dX8_digest_155 : decode cX8_digest 155 = .ok (.iinc 4 1, 3) := by decide +kernel
set_option maxRecDepth 20000 in
theorem dX8_digest_158 : decode cX8_digest 158 = .ok (.goto (-34), 3) := by decide +kernel
set_option maxRecDepth 20000 in
theorem dX8_digest_161 : decode cX8_digest 161 = .ok (.iinc 3 1, 3) := by decide +kernel
set_option maxRecDepth 20000 in
theorem dX8_digest_164 : decode cX8_digest 164 = .ok (.goto (-48), 3) := by decide +kernel
set_option maxRecDepth 20000 in
theorem dX8_digest_167 : decode cX8_digest 167 = .ok (.ldc2_w 240, 3) := by decide +kernel
set_option maxRecDepth 20000 in
theorem dX8_digest_170 : decode cX8_digest 170 = .ok (.ldc2_w 240, 3) := by decide +kernel
set_option maxRecDepth 20000 in
theorem dX8_digest_173 : decode cX8_digest 173 = .ok (.lload_n 1, 1) := by decide +kernel
set_option maxRecDepth 20000 in
theorem dX8_digest_174 : decode cX8_digest 174 = .ok (.lmul, 1) := by decide +kernel
set_option maxRecDepth 20000 in
theorem dX8_digest_175 : decode cX8_digest 175 = .ok (.aload_n 0, 1) := by decide +kernel
set_option maxRecDepth 20000 in
theorem dX8_digest_176 : decode cX8_digest 176 = .ok (.getfield 86, 3) := by decide +kernel
set_option maxRecDepth 20000 in
theorem dX8_digest_179 : decode cX8_digest 179 = .ok (.ladd, 1) := by decide +kernel
set_option maxRecDepth 20000 in
theorem dX8_digest_180 : decode cX8_digest 180 = .ok (.lmul, 1) := by decide +kernel
set_option maxRecDepth 20000 in
theorem dX8_digest_181 : decode cX8_digest 181 = .ok (.aload_n 0, 1) := by decide +kernel
set_option maxRecDepth 20000 in
theorem dX8_digest_182 : decode cX8_digest 182 = .ok (.getfield 78, 3) := by decide +kernel
set_option maxRecDepth 20000 in
theorem dX8_digest_185 : decode cX8_digest 185 = .ok (.ladd, 1) := by decide +kernel
set_option maxRecDepth 20000 in
theorem dX8_digest_186 : decode cX8_digest 186 = .ok (.lreturn, 1) := by decide +kernel
def f_X8_digest_124 (N : Nat) (c_askers : Int32) (c_places : Int32) (c_above : Int64) (c_below : Int64) (c_seats : Nat → Int32) (c_told : Nat → Int32) (c_wish : Nat → Int32) (k116 : Int64 → Int32 → Option (Int64)) : Nat → Int64 → Int32 → Int32 → Option (Int64)
  | 0, _, _, _ => none
  | n + 1, v1, v3, v4 =>
    (if c_askers ≤ v4 then
      k116 v1 (v3 + 1)
    else
      (rdI 32 c_told ((8 * v3) + v4)).bind fun t2 =>
      f_X8_digest_124 N c_askers c_places c_above c_below c_seats c_told c_wish k116 n (((31 * v1) + t2.toInt64) - 1) v3 (v4 + 1))
set_option maxHeartbeats 4000000 in
set_option maxRecDepth 100000 in
theorem g_X8_digest_124 {κ : KC} {ω : KW} {A : Nat → Prop} {ad : Nat → Nat} {u_full : Int32} {u_firsts : Int32} {u_freed : Int32} {u_whole : Int64} {N : Nat} {c_askers : Int32} {c_places : Int32} {c_above : Int64} {c_below : Int64} {c_seats : Nat → Int32} {c_told : Nat → Int32} {c_wish : Nat → Int32}  {k116 : Int64 → Int32 → Option (Int64)} {res : Int64} (hk116 : ∀ {v1 : Int64} {v3 : Int32}, k116 v1 v3 = some res → GG mu_X8_digest κ ω A (QR κ ω A ad (some (.long res)) (w_X8_digest c_askers c_places c_above c_below c_seats c_told c_wish u_full u_firsts u_freed u_whole)) ad 0 0 116 (w_X8_digest c_askers c_places c_above c_below c_seats c_told c_wish u_full u_firsts u_freed u_whole) [some (.ref 0), some (.long v1), none, some (.int v3), none] []) : ∀ (n : Nat) {v1 : Int64} {v3 : Int32} {v4 : Int32}, f_X8_digest_124 N c_askers c_places c_above c_below c_seats c_told c_wish k116 n v1 v3 v4 = some res → GG mu_X8_digest κ ω A (QR κ ω A ad (some (.long res)) (w_X8_digest c_askers c_places c_above c_below c_seats c_told c_wish u_full u_firsts u_freed u_whole)) ad 0 0 124 (w_X8_digest c_askers c_places c_above c_below c_seats c_told c_wish u_full u_firsts u_freed u_whole) [some (.ref 0), some (.long v1), none, some (.int v3), some (.int v4)] [] := by
  intro n
  induction n with
  | zero => intro v1 v3 v4 hf; exact ob_0 hf
  | succ n ih =>
    intro v1 v3 v4 hf
    refine G_iload dX8_digest_124 rfl ?_
    refine G_aload_n dX8_digest_126 rfl rfl ?_
    refine G_get (v := .int c_askers) F_X8_89 dX8_digest_127 rfl rfl ?_
    refine G_icmp_ge 161 dX8_digest_130 (by decide) (fun h1 => ?_) (fun h1 => ?_)
    · replace hf := ob_t h1 hf
      refine G_iinc 1 dX8_digest_161 (by decide) rfl (ltb rfl) ?_
      change GG _ _ _ _ _ _ _ _ _ _ [some (.ref 0), some (.long v1), none, some (.int (v3 + 1)), some (.int v4)] _
      refine G_goto 116 dX8_digest_164 (by decide) ?_
      refine GG.sb (lv2 := [some (.ref 0), some (.long v1), none, some (.int (v3 + 1)), none]) ?_ (lvS_v rfl (lvS_v rfl (lvS_n (lvS_v rfl (lvS_n (lvS_e))))))
      exact hk116 hf
    · replace hf := ob_f h1 hf
      refine G_ldc2 (v := 31) dX8_digest_133 k_X8_240 ?_
      refine G_lload_n dX8_digest_136 rfl rfl ?_
      refine G_lmul dX8_digest_137 ?_
      refine G_aload_n dX8_digest_138 rfl rfl ?_
      refine G_get (v := .ref 2) F_X8_16 dX8_digest_139 rfl rfl ?_
      refine G_bipush 8 dX8_digest_142 (by decide) ?_
      refine G_iload_n dX8_digest_144 rfl rfl ?_
      refine G_imul dX8_digest_145 ?_
      refine G_iload dX8_digest_146 rfl ?_
      refine G_iadd dX8_digest_148 ?_
      obtain ⟨t2, ht2, hf⟩ := ob hf
      refine G_iald dX8_digest_149 rfl ht2 ?_
      refine G_i2l dX8_digest_150 ?_
      refine G_ladd dX8_digest_151 ?_
      refine G_lconst 1 dX8_digest_152 (by decide) ?_
      refine G_lsub dX8_digest_153 ?_
      refine G_lstore_n dX8_digest_154 rfl (ltb rfl) ?_
      change GG _ _ _ _ _ _ _ _ _ _ [some (.ref 0), some (.long (((31 * v1) + t2.toInt64) - 1)), none, some (.int v3), some (.int v4)] _
      refine G_iinc 1 dX8_digest_155 (by decide) rfl (ltb rfl) ?_
      change GG _ _ _ _ _ _ _ _ _ _ [some (.ref 0), some (.long (((31 * v1) + t2.toInt64) - 1)), none, some (.int v3), some (.int (v4 + 1))] _
      refine G_goto 124 dX8_digest_158 (by decide) ?_
      exact ih hf
def f_X8_digest_116 (N : Nat) (c_askers : Int32) (c_places : Int32) (c_above : Int64) (c_below : Int64) (c_seats : Nat → Int32) (c_told : Nat → Int32) (c_wish : Nat → Int32) : Nat → Int64 → Int32 → Option (Int64)
  | 0, _, _ => none
  | n + 1, v1, v3 =>
    (if 4 ≤ v3 then
      some ((31 * ((31 * v1) + c_above)) + c_below)
    else
      f_X8_digest_124 N c_askers c_places c_above c_below c_seats c_told c_wish (f_X8_digest_116 N c_askers c_places c_above c_below c_seats c_told c_wish n) N v1 v3 0)
set_option maxHeartbeats 4000000 in
set_option maxRecDepth 100000 in
theorem g_X8_digest_116 {κ : KC} {ω : KW} {A : Nat → Prop} {ad : Nat → Nat} {u_full : Int32} {u_firsts : Int32} {u_freed : Int32} {u_whole : Int64} {N : Nat} {c_askers : Int32} {c_places : Int32} {c_above : Int64} {c_below : Int64} {c_seats : Nat → Int32} {c_told : Nat → Int32} {c_wish : Nat → Int32}  {res : Int64} : ∀ (n : Nat) {v1 : Int64} {v3 : Int32}, f_X8_digest_116 N c_askers c_places c_above c_below c_seats c_told c_wish n v1 v3 = some res → GG mu_X8_digest κ ω A (QR κ ω A ad (some (.long res)) (w_X8_digest c_askers c_places c_above c_below c_seats c_told c_wish u_full u_firsts u_freed u_whole)) ad 0 0 116 (w_X8_digest c_askers c_places c_above c_below c_seats c_told c_wish u_full u_firsts u_freed u_whole) [some (.ref 0), some (.long v1), none, some (.int v3), none] [] := by
  intro n
  induction n with
  | zero => intro v1 v3 hf; exact ob_0 hf
  | succ n ih =>
    intro v1 v3 hf
    refine G_iload_n dX8_digest_116 rfl rfl ?_
    refine G_iconst 4 dX8_digest_117 (by decide) ?_
    refine G_icmp_ge 167 dX8_digest_118 (by decide) (fun h1 => ?_) (fun h1 => ?_)
    · replace hf := ob_t h1 hf
      refine G_ldc2 (v := 31) dX8_digest_167 k_X8_240 ?_
      refine G_ldc2 (v := 31) dX8_digest_170 k_X8_240 ?_
      refine G_lload_n dX8_digest_173 rfl rfl ?_
      refine G_lmul dX8_digest_174 ?_
      refine G_aload_n dX8_digest_175 rfl rfl ?_
      refine G_get (v := .long c_above) F_X8_86 dX8_digest_176 rfl rfl ?_
      refine G_ladd dX8_digest_179 ?_
      refine G_lmul dX8_digest_180 ?_
      refine G_aload_n dX8_digest_181 rfl rfl ?_
      refine G_get (v := .long c_below) F_X8_78 dX8_digest_182 rfl rfl ?_
      refine G_ladd dX8_digest_185 ?_
      obtain rfl := os hf
      exact G_lreturn dX8_digest_186 rfl
    · replace hf := ob_f h1 hf
      refine G_iconst 0 dX8_digest_121 (by decide) ?_
      refine G_istore dX8_digest_122 (ltb rfl) ?_
      change GG _ _ _ _ _ _ _ _ _ _ [some (.ref 0), some (.long v1), none, some (.int v3), some (.int 0)] _
      exact g_X8_digest_124 ih N hf
def f_X8_digest_73 (N : Nat) (c_askers : Int32) (c_places : Int32) (c_above : Int64) (c_below : Int64) (c_seats : Nat → Int32) (c_told : Nat → Int32) (c_wish : Nat → Int32) (k62 : Int64 → Int32 → Option (Int64)) : Nat → Int64 → Int32 → Int32 → Option (Int64)
  | 0, _, _, _ => none
  | n + 1, v1, v3, v4 =>
    (if c_places ≤ v4 then
      k62 v1 (v3 + 1)
    else
      (rdI 48 c_wish ((6 * v3) + v4)).bind fun t2 =>
      f_X8_digest_73 N c_askers c_places c_above c_below c_seats c_told c_wish k62 n ((31 * v1) + t2.toInt64) v3 (v4 + 1))
set_option maxHeartbeats 4000000 in
set_option maxRecDepth 100000 in
theorem g_X8_digest_73 {κ : KC} {ω : KW} {A : Nat → Prop} {ad : Nat → Nat} {u_full : Int32} {u_firsts : Int32} {u_freed : Int32} {u_whole : Int64} {N : Nat} {c_askers : Int32} {c_places : Int32} {c_above : Int64} {c_below : Int64} {c_seats : Nat → Int32} {c_told : Nat → Int32} {c_wish : Nat → Int32}  {k62 : Int64 → Int32 → Option (Int64)} {res : Int64} (hk62 : ∀ {v1 : Int64} {v3 : Int32}, k62 v1 v3 = some res → GG mu_X8_digest κ ω A (QR κ ω A ad (some (.long res)) (w_X8_digest c_askers c_places c_above c_below c_seats c_told c_wish u_full u_firsts u_freed u_whole)) ad 0 0 62 (w_X8_digest c_askers c_places c_above c_below c_seats c_told c_wish u_full u_firsts u_freed u_whole) [some (.ref 0), some (.long v1), none, some (.int v3), none] []) : ∀ (n : Nat) {v1 : Int64} {v3 : Int32} {v4 : Int32}, f_X8_digest_73 N c_askers c_places c_above c_below c_seats c_told c_wish k62 n v1 v3 v4 = some res → GG mu_X8_digest κ ω A (QR κ ω A ad (some (.long res)) (w_X8_digest c_askers c_places c_above c_below c_seats c_told c_wish u_full u_firsts u_freed u_whole)) ad 0 0 73 (w_X8_digest c_askers c_places c_above c_below c_seats c_told c_wish u_full u_firsts u_freed u_whole) [some (.ref 0), some (.long v1), none, some (.int v3), some (.int v4)] [] := by
  intro n
  induction n with
  | zero => intro v1 v3 v4 hf; exact ob_0 hf
  | succ n ih =>
    intro v1 v3 v4 hf
    refine G_iload dX8_digest_73 rfl ?_
    refine G_aload_n dX8_digest_75 rfl rfl ?_
    refine G_get (v := .int c_places) F_X8_97 dX8_digest_76 rfl rfl ?_
    refine G_icmp_ge 108 dX8_digest_79 (by decide) (fun h1 => ?_) (fun h1 => ?_)
    · replace hf := ob_t h1 hf
      refine G_iinc 1 dX8_digest_108 (by decide) rfl (ltb rfl) ?_
      change GG _ _ _ _ _ _ _ _ _ _ [some (.ref 0), some (.long v1), none, some (.int (v3 + 1)), some (.int v4)] _
      refine G_goto 62 dX8_digest_111 (by decide) ?_
      refine GG.sb (lv2 := [some (.ref 0), some (.long v1), none, some (.int (v3 + 1)), none]) ?_ (lvS_v rfl (lvS_v rfl (lvS_n (lvS_v rfl (lvS_n (lvS_e))))))
      exact hk62 hf
    · replace hf := ob_f h1 hf
      refine G_ldc2 (v := 31) dX8_digest_82 k_X8_240 ?_
      refine G_lload_n dX8_digest_85 rfl rfl ?_
      refine G_lmul dX8_digest_86 ?_
      refine G_aload_n dX8_digest_87 rfl rfl ?_
      refine G_get (v := .ref 3) F_X8_13 dX8_digest_88 rfl rfl ?_
      refine G_bipush 6 dX8_digest_91 (by decide) ?_
      refine G_iload_n dX8_digest_93 rfl rfl ?_
      refine G_imul dX8_digest_94 ?_
      refine G_iload dX8_digest_95 rfl ?_
      refine G_iadd dX8_digest_97 ?_
      obtain ⟨t2, ht2, hf⟩ := ob hf
      refine G_iald dX8_digest_98 rfl ht2 ?_
      refine G_i2l dX8_digest_99 ?_
      refine G_ladd dX8_digest_100 ?_
      refine G_lstore_n dX8_digest_101 rfl (ltb rfl) ?_
      change GG _ _ _ _ _ _ _ _ _ _ [some (.ref 0), some (.long ((31 * v1) + t2.toInt64)), none, some (.int v3), some (.int v4)] _
      refine G_iinc 1 dX8_digest_102 (by decide) rfl (ltb rfl) ?_
      change GG _ _ _ _ _ _ _ _ _ _ [some (.ref 0), some (.long ((31 * v1) + t2.toInt64)), none, some (.int v3), some (.int (v4 + 1))] _
      refine G_goto 73 dX8_digest_105 (by decide) ?_
      exact ih hf
def f_X8_digest_62 (N : Nat) (c_askers : Int32) (c_places : Int32) (c_above : Int64) (c_below : Int64) (c_seats : Nat → Int32) (c_told : Nat → Int32) (c_wish : Nat → Int32) : Nat → Int64 → Int32 → Option (Int64)
  | 0, _, _ => none
  | n + 1, v1, v3 =>
    (if c_askers ≤ v3 then
      f_X8_digest_116 N c_askers c_places c_above c_below c_seats c_told c_wish N v1 0
    else
      f_X8_digest_73 N c_askers c_places c_above c_below c_seats c_told c_wish (f_X8_digest_62 N c_askers c_places c_above c_below c_seats c_told c_wish n) N v1 v3 0)
set_option maxHeartbeats 4000000 in
set_option maxRecDepth 100000 in
theorem g_X8_digest_62 {κ : KC} {ω : KW} {A : Nat → Prop} {ad : Nat → Nat} {u_full : Int32} {u_firsts : Int32} {u_freed : Int32} {u_whole : Int64} {N : Nat} {c_askers : Int32} {c_places : Int32} {c_above : Int64} {c_below : Int64} {c_seats : Nat → Int32} {c_told : Nat → Int32} {c_wish : Nat → Int32}  {res : Int64} : ∀ (n : Nat) {v1 : Int64} {v3 : Int32}, f_X8_digest_62 N c_askers c_places c_above c_below c_seats c_told c_wish n v1 v3 = some res → GG mu_X8_digest κ ω A (QR κ ω A ad (some (.long res)) (w_X8_digest c_askers c_places c_above c_below c_seats c_told c_wish u_full u_firsts u_freed u_whole)) ad 0 0 62 (w_X8_digest c_askers c_places c_above c_below c_seats c_told c_wish u_full u_firsts u_freed u_whole) [some (.ref 0), some (.long v1), none, some (.int v3), none] [] := by
  intro n
  induction n with
  | zero => intro v1 v3 hf; exact ob_0 hf
  | succ n ih =>
    intro v1 v3 hf
    refine G_iload_n dX8_digest_62 rfl rfl ?_
    refine G_aload_n dX8_digest_63 rfl rfl ?_
    refine G_get (v := .int c_askers) F_X8_89 dX8_digest_64 rfl rfl ?_
    refine G_icmp_ge 114 dX8_digest_67 (by decide) (fun h1 => ?_) (fun h1 => ?_)
    · replace hf := ob_t h1 hf
      refine G_iconst 0 dX8_digest_114 (by decide) ?_
      refine G_istore_n dX8_digest_115 rfl (ltb rfl) ?_
      change GG _ _ _ _ _ _ _ _ _ _ [some (.ref 0), some (.long v1), none, some (.int 0), none] _
      exact g_X8_digest_116 N hf
    · replace hf := ob_f h1 hf
      refine G_iconst 0 dX8_digest_70 (by decide) ?_
      refine G_istore dX8_digest_71 (ltb rfl) ?_
      change GG _ _ _ _ _ _ _ _ _ _ [some (.ref 0), some (.long v1), none, some (.int v3), some (.int 0)] _
      exact g_X8_digest_73 ih N hf
def f_X8_digest_32 (N : Nat) (c_askers : Int32) (c_places : Int32) (c_above : Int64) (c_below : Int64) (c_seats : Nat → Int32) (c_told : Nat → Int32) (c_wish : Nat → Int32) : Nat → Int64 → Int32 → Option (Int64)
  | 0, _, _ => none
  | n + 1, v1, v3 =>
    (if c_places ≤ v3 then
      f_X8_digest_62 N c_askers c_places c_above c_below c_seats c_told c_wish N v1 0
    else
      (rdI 6 c_seats v3).bind fun t2 =>
      f_X8_digest_32 N c_askers c_places c_above c_below c_seats c_told c_wish n ((31 * v1) + t2.toInt64) (v3 + 1))
set_option maxHeartbeats 4000000 in
set_option maxRecDepth 100000 in
theorem g_X8_digest_32 {κ : KC} {ω : KW} {A : Nat → Prop} {ad : Nat → Nat} {u_full : Int32} {u_firsts : Int32} {u_freed : Int32} {u_whole : Int64} {N : Nat} {c_askers : Int32} {c_places : Int32} {c_above : Int64} {c_below : Int64} {c_seats : Nat → Int32} {c_told : Nat → Int32} {c_wish : Nat → Int32}  {res : Int64} : ∀ (n : Nat) {v1 : Int64} {v3 : Int32}, f_X8_digest_32 N c_askers c_places c_above c_below c_seats c_told c_wish n v1 v3 = some res → GG mu_X8_digest κ ω A (QR κ ω A ad (some (.long res)) (w_X8_digest c_askers c_places c_above c_below c_seats c_told c_wish u_full u_firsts u_freed u_whole)) ad 0 0 32 (w_X8_digest c_askers c_places c_above c_below c_seats c_told c_wish u_full u_firsts u_freed u_whole) [some (.ref 0), some (.long v1), none, some (.int v3), none] [] := by
  intro n
  induction n with
  | zero => intro v1 v3 hf; exact ob_0 hf
  | succ n ih =>
    intro v1 v3 hf
    refine G_iload_n dX8_digest_32 rfl rfl ?_
    refine G_aload_n dX8_digest_33 rfl rfl ?_
    refine G_get (v := .int c_places) F_X8_97 dX8_digest_34 rfl rfl ?_
    refine G_icmp_ge 60 dX8_digest_37 (by decide) (fun h1 => ?_) (fun h1 => ?_)
    · replace hf := ob_t h1 hf
      refine G_iconst 0 dX8_digest_60 (by decide) ?_
      refine G_istore_n dX8_digest_61 rfl (ltb rfl) ?_
      change GG _ _ _ _ _ _ _ _ _ _ [some (.ref 0), some (.long v1), none, some (.int 0), none] _
      exact g_X8_digest_62 N hf
    · replace hf := ob_f h1 hf
      refine G_ldc2 (v := 31) dX8_digest_40 k_X8_240 ?_
      refine G_lload_n dX8_digest_43 rfl rfl ?_
      refine G_lmul dX8_digest_44 ?_
      refine G_aload_n dX8_digest_45 rfl rfl ?_
      refine G_get (v := .ref 1) F_X8_7 dX8_digest_46 rfl rfl ?_
      refine G_iload_n dX8_digest_49 rfl rfl ?_
      obtain ⟨t2, ht2, hf⟩ := ob hf
      refine G_iald dX8_digest_50 rfl ht2 ?_
      refine G_i2l dX8_digest_51 ?_
      refine G_ladd dX8_digest_52 ?_
      refine G_lstore_n dX8_digest_53 rfl (ltb rfl) ?_
      change GG _ _ _ _ _ _ _ _ _ _ [some (.ref 0), some (.long ((31 * v1) + t2.toInt64)), none, some (.int v3), none] _
      refine G_iinc 1 dX8_digest_54 (by decide) rfl (ltb rfl) ?_
      change GG _ _ _ _ _ _ _ _ _ _ [some (.ref 0), some (.long ((31 * v1) + t2.toInt64)), none, some (.int (v3 + 1)), none] _
      refine G_goto 32 dX8_digest_57 (by decide) ?_
      exact ih hf
def f_X8_digest_6 (N : Nat) (c_askers : Int32) (c_places : Int32) (c_above : Int64) (c_below : Int64) (c_seats : Nat → Int32) (c_told : Nat → Int32) (c_wish : Nat → Int32) : Nat → Int64 → Int32 → Option (Int64)
  | 0, _, _ => none
  | n + 1, v1, v3 =>
    (if 4 ≤ v3 then
      f_X8_digest_32 N c_askers c_places c_above c_below c_seats c_told c_wish N v1 0
    else
      (f_X8_countOf N c_askers c_places c_seats c_wish v3).bind fun r2 =>
      f_X8_digest_6 N c_askers c_places c_above c_below c_seats c_told c_wish n ((31 * v1) + r2.toInt64) (v3 + 1))
set_option maxHeartbeats 4000000 in
set_option maxRecDepth 100000 in
theorem g_X8_digest_6 {κ : KC} {ω : KW} {A : Nat → Prop} {ad : Nat → Nat} {u_full : Int32} {u_firsts : Int32} {u_freed : Int32} {u_whole : Int64} {N : Nat} {c_askers : Int32} {c_places : Int32} {c_above : Int64} {c_below : Int64} {c_seats : Nat → Int32} {c_told : Nat → Int32} {c_wish : Nat → Int32}  {res : Int64} : ∀ (n : Nat) {v1 : Int64} {v3 : Int32}, f_X8_digest_6 N c_askers c_places c_above c_below c_seats c_told c_wish n v1 v3 = some res → GG mu_X8_digest κ ω A (QR κ ω A ad (some (.long res)) (w_X8_digest c_askers c_places c_above c_below c_seats c_told c_wish u_full u_firsts u_freed u_whole)) ad 0 0 6 (w_X8_digest c_askers c_places c_above c_below c_seats c_told c_wish u_full u_firsts u_freed u_whole) [some (.ref 0), some (.long v1), none, some (.int v3), none] [] := by
  intro n
  induction n with
  | zero => intro v1 v3 hf; exact ob_0 hf
  | succ n ih =>
    intro v1 v3 hf
    refine G_iload_n dX8_digest_6 rfl rfl ?_
    refine G_iconst 4 dX8_digest_7 (by decide) ?_
    refine G_icmp_ge 30 dX8_digest_8 (by decide) (fun h1 => ?_) (fun h1 => ?_)
    · replace hf := ob_t h1 hf
      refine G_iconst 0 dX8_digest_30 (by decide) ?_
      refine G_istore_n dX8_digest_31 rfl (ltb rfl) ?_
      change GG _ _ _ _ _ _ _ _ _ _ [some (.ref 0), some (.long v1), none, some (.int 0), none] _
      exact g_X8_digest_32 N hf
    · replace hf := ob_f h1 hf
      refine G_ldc2 (v := 31) dX8_digest_11 k_X8_240 ?_
      refine G_lload_n dX8_digest_14 rfl rfl ?_
      refine G_lmul dX8_digest_15 ?_
      refine G_aload_n dX8_digest_16 rfl rfl ?_
      refine G_iload_n dX8_digest_17 rfl rfl ?_
      obtain ⟨r2, hc3, hf⟩ := ob hf
      refine G_callV (μ2 := mu_X8_countOf) (As := [.int v3]) (w2 := (w_X8_digest c_askers c_places c_above c_below c_seats c_told c_wish u_full u_firsts u_freed u_whole)) (wc := (w_X8_countOf c_askers c_places c_seats c_wish c_above c_below u_full u_firsts u_freed u_whole)) (wc2 := (w_X8_countOf c_askers c_places c_seats c_wish c_above c_below u_full u_firsts u_freed u_whole)) (rest := [.long (31 * v1)]) (rv := [.int r2]) [0, 1, 3] [2, 1000, 1001, 1002, 1003, 1004, 1005, 1006, 1007, 1008, 1009, 1010, 1011, 1012, 1013, 1014, 1015, 1016, 1017] [2] [1, 2, 0, 3] (c_X8_countOf hc3) cw_X8_countOf m_X8_235 dX8_digest_18 rfl ⟨leb rfl, leb rfl⟩ ⟨rfl, rfl⟩ rfl ⟨_, rfl, rfl⟩ (Fit.mk rfl rfl rfl) rfl (leb rfl) (ROsub.nil rfl rfl) rfl ?_
      change GG _ _ _ _ _ _ _ _ _ (w_X8_digest c_askers c_places c_above c_below c_seats c_told c_wish u_full u_firsts u_freed u_whole) [some (.ref 0), some (.long v1), none, some (.int v3), none] [.int r2, .long (31 * v1)]
      refine G_i2l dX8_digest_21 ?_
      refine G_ladd dX8_digest_22 ?_
      refine G_lstore_n dX8_digest_23 rfl (ltb rfl) ?_
      change GG _ _ _ _ _ _ _ _ _ _ [some (.ref 0), some (.long ((31 * v1) + r2.toInt64)), none, some (.int v3), none] _
      refine G_iinc 1 dX8_digest_24 (by decide) rfl (ltb rfl) ?_
      change GG _ _ _ _ _ _ _ _ _ _ [some (.ref 0), some (.long ((31 * v1) + r2.toInt64)), none, some (.int (v3 + 1)), none] _
      refine G_goto 6 dX8_digest_27 (by decide) ?_
      exact ih hf
def f_X8_digest (N : Nat) (c_askers : Int32) (c_places : Int32) (c_above : Int64) (c_below : Int64) (c_seats : Nat → Int32) (c_told : Nat → Int32) (c_wish : Nat → Int32)  : Option (Int64) :=
  f_X8_digest_6 N c_askers c_places c_above c_below c_seats c_told c_wish N 331 0
set_option maxHeartbeats 4000000 in
set_option maxRecDepth 100000 in
theorem c_X8_digest {N : Nat} {c_askers : Int32} {c_places : Int32} {c_above : Int64} {c_below : Int64} {c_seats : Nat → Int32} {c_told : Nat → Int32} {c_wish : Nat → Int32}  {u_full : Int32} {u_firsts : Int32} {u_freed : Int32} {u_whole : Int64}  {res : Int64} (hf : f_X8_digest N c_askers c_places c_above c_below c_seats c_told c_wish = some res) : Con mu_X8_digest [.ref 0] (w_X8_digest c_askers c_places c_above c_below c_seats c_told c_wish u_full u_firsts u_freed u_whole) (some (.long res)) (w_X8_digest c_askers c_places c_above c_below c_seats c_told c_wish u_full u_firsts u_freed u_whole) := by
  refine Con.mk (show plainName RX8 = true by decide +kernel) (leb rfl) (fun κ ω A ad => ?_)
  change GG mu_X8_digest κ ω A (QR κ ω A ad (some (.long res)) (w_X8_digest c_askers c_places c_above c_below c_seats c_told c_wish u_full u_firsts u_freed u_whole)) ad 0 0 0 (w_X8_digest c_askers c_places c_above c_below c_seats c_told c_wish u_full u_firsts u_freed u_whole) [some (.ref 0), none, none, none, none] []
  refine G_ldc2 (v := 331) dX8_digest_0 k_X8_238 ?_
  refine G_lstore_n dX8_digest_3 rfl (ltb rfl) ?_
  change GG _ _ _ _ _ _ _ _ _ _ [some (.ref 0), some (.long 331), none, none, none] _
  refine G_iconst 0 dX8_digest_4 (by decide) ?_
  refine G_istore_n dX8_digest_5 rfl (ltb rfl) ?_
  change GG _ _ _ _ _ _ _ _ _ _ [some (.ref 0), some (.long 331), none, some (.int 0), none] _
  exact g_X8_digest_6 N hf
