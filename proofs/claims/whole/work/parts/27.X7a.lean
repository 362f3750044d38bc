/-! printed by wip/gen: WishPlaces, part 0 -/
set_option maxRecDepth 100000 in
theorem uX7 : ∀ w ∈ u_ws RX7 TX7 12, w ∈ ALLW := by decide +kernel
theorem F_X7_10 : FLD RX7 10 7 0 (.object "WishPlaces$Board") true := ⟨RX7, TX7, 12, tyX7, rfl, by decide, uX7, all_of 248 (by decide +kernel) (by decide +kernel), tyX7_ok, rfl, nmX7, rfl⟩
theorem F_X7_21 : FLD RX7 21 7 1 (.object "WishPlaces$Search") true := ⟨RX7, TX7, 12, tyX7, rfl, by decide, uX7, all_of 249 (by decide +kernel) (by decide +kernel), tyX7_ok, rfl, nmX7, rfl⟩
theorem F_X7_28 : FLD RX7 28 7 3 (.object "WishPlaces$Search") true := ⟨RX7, TX7, 12, tyX7, rfl, by decide, uX7, all_of 251 (by decide +kernel) (by decide +kernel), tyX7_ok, rfl, nmX7, rfl⟩
theorem F_X7_43 : FLD RX7 43 7 5 (.object "WishPlaces$Trade") true := ⟨RX7, TX7, 12, tyX7, rfl, by decide, uX7, all_of 253 (by decide +kernel) (by decide +kernel), tyX7_ok, rfl, nmX7, rfl⟩
theorem F_X7_68 : FLD RX7 68 7 9 (.array .int) true := ⟨RX7, TX7, 12, tyX7, rfl, by decide, uX7, all_of 257 (by decide +kernel) (by decide +kernel), tyX7_ok, rfl, nmX7, rfl⟩
theorem F_X7_79 : FLD RX7 79 0 0 .int false := ⟨RX0, TX0, 7, tyX0, rfl, by decide, uX0, all_of 25 (by decide +kernel) (by decide +kernel), tyX0_ok, rfl, nmX0, rfl⟩
theorem F_X7_91 : FLD RX7 91 0 1 .int false := ⟨RX0, TX0, 7, tyX0, rfl, by decide, uX0, all_of 36 (by decide +kernel) (by decide +kernel), tyX0_ok, rfl, nmX0, rfl⟩
theorem F_X7_267 : FLD RX7 267 0 3 (.array .int) true := ⟨RX0, TX0, 7, tyX0, rfl, by decide, uX0, all_of 44 (by decide +kernel) (by decide +kernel), tyX0_ok, rfl, nmX0, rfl⟩
theorem F_X7_283 : FLD RX7 283 6 1 (.array .int) true := ⟨RX6, TX6, 6, tyX6, rfl, by decide, uX6, all_of 147 (by decide +kernel) (by decide +kernel), tyX6_ok, rfl, nmX6, rfl⟩
theorem m_X7_83 : Cond.methodLink RX7 83 yX0_addAsker ∈ ALLW := all_of 289 (by decide +kernel) (by decide +kernel)
theorem m_X7_87 : Cond.methodLink RX7 87 yX7_isSeats ∈ ALLW := all_of 297 (by decide +kernel) (by decide +kernel)
theorem m_X7_94 : Cond.methodLink RX7 94 yX0_addPlace ∈ ALLW := all_of 300 (by decide +kernel) (by decide +kernel)
theorem m_X7_98 : Cond.methodLink RX7 98 yX0_isPlace ∈ ALLW := all_of 308 (by decide +kernel) (by decide +kernel)
theorem m_X7_101 : Cond.methodLink RX7 101 yX0_holders ∈ ALLW := all_of 312 (by decide +kernel) (by decide +kernel)
theorem m_X7_105 : Cond.methodLink RX7 105 yX0_setSeats ∈ ALLW := all_of 320 (by decide +kernel) (by decide +kernel)
theorem m_X7_109 : Cond.methodLink RX7 109 yX0_isAsker ∈ ALLW := all_of 328 (by decide +kernel) (by decide +kernel)
theorem m_X7_112 : Cond.methodLink RX7 112 yX0_setWish ∈ ALLW := all_of 332 (by decide +kernel) (by decide +kernel)
theorem m_X7_115 : Cond.methodLink RX7 115 yX7_isPlaceOrNone ∈ ALLW := all_of 348 (by decide +kernel) (by decide +kernel)
theorem m_X7_118 : Cond.methodLink RX7 118 yX0_worthOf ∈ ALLW := all_of 352 (by decide +kernel) (by decide +kernel)
theorem m_X7_121 : Cond.methodLink RX7 121 yX7_solveAll ∈ ALLW := all_of 360 (by decide +kernel) (by decide +kernel)
theorem m_X7_124 : Cond.methodLink RX7 124 yX4_howMany ∈ ALLW := all_of 422 (by decide +kernel) (by decide +kernel)
theorem m_X7_127 : Cond.methodLink RX7 127 yX7_givings ∈ ALLW := all_of 430 (by decide +kernel) (by decide +kernel)
theorem m_X7_131 : Cond.methodLink RX7 131 yX4_pathTo ∈ ALLW := all_of 431 (by decide +kernel) (by decide +kernel)
theorem m_X7_135 : Cond.methodLink RX7 135 yX7_isTold ∈ ALLW := all_of 443 (by decide +kernel) (by decide +kernel)
theorem m_X7_138 : Cond.methodLink RX7 138 yX7_isFree ∈ ALLW := all_of 446 (by decide +kernel) (by decide +kernel)
theorem m_X7_142 : Cond.methodLink RX7 142 yX0_tell ∈ ALLW := all_of 454 (by decide +kernel) (by decide +kernel)
theorem m_X7_146 : Cond.methodLink RX7 146 yX7_findRow ∈ ALLW := all_of 462 (by decide +kernel) (by decide +kernel)
theorem m_X7_150 : Cond.methodLink RX7 150 yX0_toldOf ∈ ALLW := all_of 519 (by decide +kernel) (by decide +kernel)
theorem m_X7_155 : Cond.methodLink RX7 155 yX7_copyTold ∈ ALLW := all_of 515 (by decide +kernel) (by decide +kernel)
theorem m_X7_159 : Cond.methodLink RX7 159 yX4_rankOf ∈ ALLW := all_of 529 (by decide +kernel) (by decide +kernel)
theorem m_X7_163 : Cond.methodLink RX7 163 yX0_toldWorth ∈ ALLW := all_of 480 (by decide +kernel) (by decide +kernel)
theorem m_X7_172 : Cond.methodLink RX7 172 yX7_solveVotes ∈ ALLW := all_of 476 (by decide +kernel) (by decide +kernel)
theorem m_X7_201 : Cond.methodLink RX7 201 yX4_solve ∈ ALLW := all_of 374 (by decide +kernel) (by decide +kernel)
theorem m_X7_216 : Cond.methodLink RX7 216 yX6_run ∈ ALLW := all_of 484 (by decide +kernel) (by decide +kernel)
theorem m_X7_264 : Cond.methodLink RX7 264 yX0_wishOf ∈ ALLW := all_of 450 (by decide +kernel) (by decide +kernel)
theorem m_X7_273 : Cond.methodLink RX7 273 yX7_findByWorth ∈ ALLW := all_of 468 (by decide +kernel) (by decide +kernel)
theorem m_X7_286 : Cond.methodLink RX7 286 arraycopyName ∈ ALLW := all_of 514 (by decide +kernel) (by decide +kernel)
theorem m_X7_292 : Cond.methodLink RX7 292 yX0_isOpen ∈ ALLW := all_of 364 (by decide +kernel) (by decide +kernel)
theorem m_X7_296 : Cond.methodLink RX7 296 yX4_setGain ∈ ALLW := all_of 370 (by decide +kernel) (by decide +kernel)
theorem k_X7_153 : Cond.constantLong RX7 153 (-2 : Int64) ∈ ALLW := all_of 528 (by decide +kernel) (by decide +kernel)
theorem k_X7_193 : Cond.constant RX7 193 (-2000000000 : Int32) ∈ ALLW := all_of 369 (by decide +kernel) (by decide +kernel)
theorem s_X7_270 : Cond.fieldLink RX7 270 "WishPlaces" "FIRSTS_GAINS" "[I" ∈ ALLW := all_of 466 (by decide +kernel) (by decide +kernel)
theorem s_X7_277 : Cond.fieldLink RX7 277 "WishPlaces" "FAIREST_GAINS" "[I" ∈ ALLW := all_of 472 (by decide +kernel) (by decide +kernel)
theorem s_X7_280 : Cond.fieldLink RX7 280 "WishPlaces" "MOST_GAINS" "[I" ∈ ALLW := all_of 474 (by decide +kernel) (by decide +kernel)
abbrev mu_X7_asker : KM := (yX7_asker, cX7_asker, 1, (some .int), { frames := 1, cells := 0, slots := 0, locals := 20 }, [], [])
def w_X7_asker (c_board_askers : Int32) (c_board_age : Int32) (u_above : Int64) (u_below : Int64) (u_board_places : Int32) : List mE := [.inr (7, [.ref 1, .ref 1000, .ref 1001, .ref 1002, .ref 1003, .ref 1004, .ref 1005, .ref 1006, .ref 1007, .ref 1008, .long u_above, .long u_below]), .inr (0, [.int c_board_askers, .int u_board_places, .int c_board_age, .ref 1009, .ref 1010, .ref 1011, .ref 1012])]
theorem cw_X7_asker : CWv mu_X7_asker 0 := ⟨⟨all_of 288 (by decide +kernel) (by decide +kernel), all_of 1 (by decide +kernel) (by decide +kernel), by decide +kernel, by decide +kernel, by decide +kernel⟩, all_of 286 (by decide +kernel) (by decide +kernel), all_of 287 (by decide +kernel) (by decide +kernel)⟩
abbrev mu_X7_isSeats : KM := (yX7_isSeats, cX7_isSeats, 1, (some .boolean), { frames := 0, cells := 0, slots := 0, locals := 0 }, [], [])
theorem cw_X7_isSeats : CWs mu_X7_isSeats 1 := ⟨⟨all_of 299 (by decide +kernel) (by decide +kernel), all_of 1 (by decide +kernel) (by decide +kernel), by decide +kernel, by decide +kernel, by decide +kernel⟩, all_of 298 (by decide +kernel) (by decide +kernel)⟩
abbrev mu_X7_place : KM := (yX7_place, cX7_place, 2, (some .int), { frames := 1, cells := 0, slots := 0, locals := 21 }, [], [])
def w_X7_place (c_board_places : Int32) (c_board_age : Int32) (c_board_seats : Nat → Int32) (u_above : Int64) (u_below : Int64) (u_board_askers : Int32) : List mE := [.inr (7, [.ref 1, .ref 1000, .ref 1001, .ref 1002, .ref 1003, .ref 1004, .ref 1005, .ref 1006, .ref 1007, .ref 1008, .long u_above, .long u_below]), .inr (0, [.int u_board_askers, .int c_board_places, .int c_board_age, .ref 2, .ref 1009, .ref 1010, .ref 1011]), .inl (0, 6, .inl c_board_seats)]
theorem cw_X7_place : CWv mu_X7_place 1 := ⟨⟨all_of 296 (by decide +kernel) (by decide +kernel), all_of 1 (by decide +kernel) (by decide +kernel), by decide +kernel, by decide +kernel, by decide +kernel⟩, all_of 294 (by decide +kernel) (by decide +kernel), all_of 295 (by decide +kernel) (by decide +kernel)⟩
abbrev mu_X7_seats : KM := (yX7_seats, cX7_seats, 4, (some .int), { frames := 2, cells := 0, slots := 0, locals := 47 }, [], [])
def w_X7_seats (c_board_askers : Int32) (c_board_places : Int32) (c_board_age : Int32) (c_board_seats : Nat → Int32) (c_board_told : Nat → Int32) (u_above : Int64) (u_below : Int64) : List mE := [.inr (7, [.ref 1, .ref 1000, .ref 1001, .ref 1002, .ref 1003, .ref 1004, .ref 1005, .ref 1006, .ref 1007, .ref 1008, .long u_above, .long u_below]), .inr (0, [.int c_board_askers, .int c_board_places, .int c_board_age, .ref 2, .ref 1009, .ref 1010, .ref 3]), .inl (0, 6, .inl c_board_seats), .inl (0, 32, .inl c_board_told)]
theorem cw_X7_seats : CWv mu_X7_seats 2 := ⟨⟨all_of 307 (by decide +kernel) (by decide +kernel), all_of 1 (by decide +kernel) (by decide +kernel), by decide +kernel, by decide +kernel, by decide +kernel⟩, all_of 305 (by decide +kernel) (by decide +kernel), all_of 306 (by decide +kernel) (by decide +kernel)⟩
abbrev mu_X7_wish : KM := (yX7_wish, cX7_wish, 4, (some .int), { frames := 2, cells := 0, slots := 0, locals := 48 }, [], [])
def w_X7_wish (c_board_askers : Int32) (c_board_places : Int32) (c_board_age : Int32) (c_board_likes : Nat → Int32) (c_board_told : Nat → Int32) (c_board_wishes : Nat → Int32) (u_above : Int64) (u_below : Int64) : List mE := [.inr (7, [.ref 1, .ref 1000, .ref 1001, .ref 1002, .ref 1003, .ref 1004, .ref 1005, .ref 1006, .ref 1007, .ref 1008, .long u_above, .long u_below]), .inr (0, [.int c_board_askers, .int c_board_places, .int c_board_age, .ref 1009, .ref 4, .ref 2, .ref 3]), .inl (0, 48, .inl c_board_likes), .inl (0, 32, .inl c_board_told), .inl (0, 48, .inl c_board_wishes)]
theorem cw_X7_wish : CWv mu_X7_wish 3 := ⟨⟨all_of 327 (by decide +kernel) (by decide +kernel), all_of 1 (by decide +kernel) (by decide +kernel), by decide +kernel, by decide +kernel, by decide +kernel⟩, all_of 325 (by decide +kernel) (by decide +kernel), all_of 326 (by decide +kernel) (by decide +kernel)⟩
abbrev mu_X7_isPlaceOrNone : KM := (yX7_isPlaceOrNone, cX7_isPlaceOrNone, 2, (some .boolean), { frames := 1, cells := 0, slots := 0, locals := 21 }, [], [])
def w_X7_isPlaceOrNone (c_board_places : Int32) (u_above : Int64) (u_below : Int64) (u_board_askers : Int32) (u_board_age : Int32) : List mE := [.inr (7, [.ref 1, .ref 1000, .ref 1001, .ref 1002, .ref 1003, .ref 1004, .ref 1005, .ref 1006, .ref 1007, .ref 1008, .long u_above, .long u_below]), .inr (0, [.int u_board_askers, .int c_board_places, .int u_board_age, .ref 1009, .ref 1010, .ref 1011, .ref 1012])]
theorem cw_X7_isPlaceOrNone : CWv mu_X7_isPlaceOrNone 1 := ⟨⟨all_of 351 (by decide +kernel) (by decide +kernel), all_of 1 (by decide +kernel) (by decide +kernel), by decide +kernel, by decide +kernel, by decide +kernel⟩, all_of 350 (by decide +kernel) (by decide +kernel), all_pr 2 (by decide +kernel) (by decide +kernel)⟩
abbrev mu_X7_worth : KM := (yX7_worth, cX7_worth, 3, (some .int), { frames := 2, cells := 0, slots := 0, locals := 42 }, [], [])
def w_X7_worth (c_board_askers : Int32) (c_board_places : Int32) (c_board_wishes : Nat → Int32) (u_above : Int64) (u_below : Int64) (u_board_age : Int32) : List mE := [.inr (7, [.ref 1, .ref 1000, .ref 1001, .ref 1002, .ref 1003, .ref 1004, .ref 1005, .ref 1006, .ref 1007, .ref 1008, .long u_above, .long u_below]), .inr (0, [.int c_board_askers, .int c_board_places, .int u_board_age, .ref 1009, .ref 2, .ref 1010, .ref 1011]), .inl (0, 48, .inl c_board_wishes)]
theorem cw_X7_worth : CWv mu_X7_worth 2 := ⟨⟨all_of 347 (by decide +kernel) (by decide +kernel), all_of 1 (by decide +kernel) (by decide +kernel), by decide +kernel, by decide +kernel, by decide +kernel⟩, all_of 345 (by decide +kernel) (by decide +kernel), all_of 346 (by decide +kernel) (by decide +kernel)⟩
abbrev mu_X7_solveAll : KM := (yX7_solveAll, cX7_solveAll, 3, none, { frames := 4, cells := 0, slots := 0, locals := 92 }, [], [])
def w_X7_solveAll (c_all_askers : Int32) (c_all_places : Int32) (c_all_seatBits : Int32) (c_all_entries : Int32) (c_board_askers : Int32) (c_board_places : Int32) (c_all_best : Nat → Int32) (c_all_clipAll : Nat → Int32) (c_all_clipToOne : Nat → Int32) (c_all_clipToTwo : Nat → Int32) (c_all_firstOf : Nat → Int32) (c_all_gains : Nat → Int32) (c_all_left : Nat → Int32) (c_all_next : Nat → Int32) (c_all_slots : Nat → Int32) (c_all_solvedGains : Nat → Int32) (c_all_ways : Nat → Int32) (c_board_seats : Nat → Int32) (c_board_wishes : Nat → Int32) (u_above : Int64) (u_below : Int64) (u_board_age : Int32) : List mE := [.inr (7, [.ref 2, .ref 1, .ref 1000, .ref 1001, .ref 1002, .ref 1003, .ref 1004, .ref 1005, .ref 1006, .ref 1007, .long u_above, .long u_below]), .inr (4, [.ref 2, .ref 8, .ref 12, .int c_all_askers, .int c_all_places, .int c_all_seatBits, .ref 9, .ref 3, .ref 13, .ref 10, .ref 7, .int c_all_entries, .ref 11, .ref 4, .ref 5, .ref 6]), .inr (0, [.int c_board_askers, .int c_board_places, .int u_board_age, .ref 14, .ref 15, .ref 1008, .ref 1009]), .inl (0, 1056, .inl c_all_best), .inl (0, 9, .inl c_all_clipAll), .inl (0, 9, .inl c_all_clipToOne), .inl (0, 9, .inl c_all_clipToTwo), .inl (0, 10, .inl c_all_firstOf), .inl (0, 56, .inl c_all_gains), .inl (0, 1056, .inl c_all_left), .inl (0, 7392, .inl c_all_next), .inl (0, 4096, .inl c_all_slots), .inl (0, 56, .inl c_all_solvedGains), .inl (0, 1056, .inl c_all_ways), .inl (0, 6, .inl c_board_seats), .inl (0, 48, .inl c_board_wishes)]
theorem cw_X7_solveAll : CWv mu_X7_solveAll 0 := ⟨⟨all_of 363 (by decide +kernel) (by decide +kernel), all_of 1 (by decide +kernel) (by decide +kernel), by decide +kernel, by decide +kernel, by decide +kernel⟩, all_of 362 (by decide +kernel) (by decide +kernel), all_pr 3 (by decide +kernel) (by decide +kernel)⟩
abbrev mu_X7_givings : KM := (yX7_givings, cX7_givings, 1, (some .long), { frames := 5, cells := 0, slots := 0, locals := 114 }, [], [])
def w_X7_givings (c_all_askers : Int32) (c_all_places : Int32) (c_all_seatBits : Int32) (c_all_entries : Int32) (c_board_askers : Int32) (c_board_places : Int32) (c_all_best : Nat → Int32) (c_all_clipAll : Nat → Int32) (c_all_clipToOne : Nat → Int32) (c_all_clipToTwo : Nat → Int32) (c_all_firstOf : Nat → Int32) (c_all_gains : Nat → Int32) (c_all_left : Nat → Int32) (c_all_next : Nat → Int32) (c_all_slots : Nat → Int32) (c_all_solvedGains : Nat → Int32) (c_all_ways : Nat → Int32) (c_board_seats : Nat → Int32) (c_board_wishes : Nat → Int32) (u_above : Int64) (u_below : Int64) (u_board_age : Int32) : List mE := [.inr (7, [.ref 2, .ref 1, .ref 1000, .ref 1001, .ref 1002, .ref 1003, .ref 1004, .ref 1005, .ref 1006, .ref 1007, .long u_above, .long u_below]), .inr (4, [.ref 2, .ref 8, .ref 12, .int c_all_askers, .int c_all_places, .int c_all_seatBits, .ref 9, .ref 3, .ref 13, .ref 10, .ref 7, .int c_all_entries, .ref 11, .ref 4, .ref 5, .ref 6]), .inr (0, [.int c_board_askers, .int c_board_places, .int u_board_age, .ref 14, .ref 15, .ref 1008, .ref 1009]), .inl (0, 1056, .inl c_all_best), .inl (0, 9, .inl c_all_clipAll), .inl (0, 9, .inl c_all_clipToOne), .inl (0, 9, .inl c_all_clipToTwo), .inl (0, 10, .inl c_all_firstOf), .inl (0, 56, .inl c_all_gains), .inl (0, 1056, .inl c_all_left), .inl (0, 7392, .inl c_all_next), .inl (0, 4096, .inl c_all_slots), .inl (0, 56, .inl c_all_solvedGains), .inl (0, 1056, .inl c_all_ways), .inl (0, 6, .inl c_board_seats), .inl (0, 48, .inl c_board_wishes)]
theorem cw_X7_givings : CWv mu_X7_givings 0 := ⟨⟨all_of 359 (by decide +kernel) (by decide +kernel), all_of 1 (by decide +kernel) (by decide +kernel), by decide +kernel, by decide +kernel, by decide +kernel⟩, all_of 357 (by decide +kernel) (by decide +kernel), all_of 358 (by decide +kernel) (by decide +kernel)⟩
abbrev mu_X7_givingAt : KM := (yX7_givingAt, cX7_givingAt, 4, (some .int), { frames := 6, cells := 0, slots := 0, locals := 134 }, [], [])
def w_X7_givingAt (c_all_askers : Int32) (c_all_places : Int32) (c_all_seatBits : Int32) (c_all_entries : Int32) (c_board_askers : Int32) (c_board_places : Int32) (c_row : Nat → Int32) (c_all_best : Nat → Int32) (c_all_clipAll : Nat → Int32) (c_all_clipToOne : Nat → Int32) (c_all_clipToTwo : Nat → Int32) (c_all_firstOf : Nat → Int32) (c_all_gains : Nat → Int32) (c_all_left : Nat → Int32) (c_all_next : Nat → Int32) (c_all_slots : Nat → Int32) (c_all_solvedGains : Nat → Int32) (c_all_ways : Nat → Int32) (c_board_seats : Nat → Int32) (c_board_wishes : Nat → Int32) (u_above : Int64) (u_below : Int64) (u_board_age : Int32) : List mE := [.inr (7, [.ref 2, .ref 1, .ref 1000, .ref 1001, .ref 1002, .ref 1003, .ref 1004, .ref 1005, .ref 1006, .ref 3, .long u_above, .long u_below]), .inr (4, [.ref 2, .ref 9, .ref 13, .int c_all_askers, .int c_all_places, .int c_all_seatBits, .ref 10, .ref 4, .ref 14, .ref 11, .ref 8, .int c_all_entries, .ref 12, .ref 5, .ref 6, .ref 7]), .inr (0, [.int c_board_askers, .int c_board_places, .int u_board_age, .ref 15, .ref 16, .ref 1007, .ref 1008]), .inl (0, 8, .inl c_row), .inl (0, 1056, .inl c_all_best), .inl (0, 9, .inl c_all_clipAll), .inl (0, 9, .inl c_all_clipToOne), .inl (0, 9, .inl c_all_clipToTwo), .inl (0, 10, .inl c_all_firstOf), .inl (0, 56, .inl c_all_gains), .inl (0, 1056, .inl c_all_left), .inl (0, 7392, .inl c_all_next), .inl (0, 4096, .inl c_all_slots), .inl (0, 56, .inl c_all_solvedGains), .inl (0, 1056, .inl c_all_ways), .inl (0, 6, .inl c_board_seats), .inl (0, 48, .inl c_board_wishes)]
theorem cw_X7_givingAt : CWv mu_X7_givingAt 2 := ⟨⟨all_of 429 (by decide +kernel) (by decide +kernel), all_of 1 (by decide +kernel) (by decide +kernel), by decide +kernel, by decide +kernel, by decide +kernel⟩, all_of 427 (by decide +kernel) (by decide +kernel), all_of 428 (by decide +kernel) (by decide +kernel)⟩
abbrev mu_X7_isTold : KM := (yX7_isTold, cX7_isTold, 1, (some .boolean), { frames := 0, cells := 0, slots := 0, locals := 0 }, [], [])
theorem cw_X7_isTold : CWs mu_X7_isTold 1 := ⟨⟨all_of 445 (by decide +kernel) (by decide +kernel), all_of 1 (by decide +kernel) (by decide +kernel), by decide +kernel, by decide +kernel, by decide +kernel⟩, all_of 444 (by decide +kernel) (by decide +kernel)⟩
abbrev mu_X7_isFree : KM := (yX7_isFree, cX7_isFree, 4, (some .boolean), { frames := 2, cells := 0, slots := 0, locals := 47 }, [], [])
def w_X7_isFree (c_board_askers : Int32) (c_board_seats : Nat → Int32) (c_board_told : Nat → Int32) (c_board_wishes : Nat → Int32) (u_above : Int64) (u_below : Int64) (u_board_places : Int32) (u_board_age : Int32) : List mE := [.inr (7, [.ref 1, .ref 1000, .ref 1001, .ref 1002, .ref 1003, .ref 1004, .ref 1005, .ref 1006, .ref 1007, .ref 1008, .long u_above, .long u_below]), .inr (0, [.int c_board_askers, .int u_board_places, .int u_board_age, .ref 2, .ref 4, .ref 1009, .ref 3]), .inl (0, 6, .inl c_board_seats), .inl (0, 32, .inl c_board_told), .inl (0, 48, .inl c_board_wishes)]
theorem cw_X7_isFree : CWv mu_X7_isFree 3 := ⟨⟨all_of 449 (by decide +kernel) (by decide +kernel), all_of 1 (by decide +kernel) (by decide +kernel), by decide +kernel, by decide +kernel, by decide +kernel⟩, all_of 448 (by decide +kernel) (by decide +kernel), all_pr 14 (by decide +kernel) (by decide +kernel)⟩
abbrev mu_X7_give : KM := (yX7_give, cX7_give, 4, (some .int), { frames := 3, cells := 0, slots := 0, locals := 70 }, [], [])
def w_X7_give (c_board_askers : Int32) (c_board_places : Int32) (c_board_seats : Nat → Int32) (c_board_told : Nat → Int32) (c_board_wishes : Nat → Int32) (u_above : Int64) (u_below : Int64) (u_board_age : Int32) : List mE := [.inr (7, [.ref 1, .ref 1000, .ref 1001, .ref 1002, .ref 1003, .ref 1004, .ref 1005, .ref 1006, .ref 1007, .ref 1008, .long u_above, .long u_below]), .inr (0, [.int c_board_askers, .int c_board_places, .int u_board_age, .ref 2, .ref 4, .ref 1009, .ref 3]), .inl (0, 6, .inl c_board_seats), .inl (0, 32, .inl c_board_told), .inl (0, 48, .inl c_board_wishes)]
theorem cw_X7_give : CWv mu_X7_give 3 := ⟨⟨all_of 442 (by decide +kernel) (by decide +kernel), all_of 1 (by decide +kernel) (by decide +kernel), by decide +kernel, by decide +kernel, by decide +kernel⟩, all_of 440 (by decide +kernel) (by decide +kernel), all_of 441 (by decide +kernel) (by decide +kernel)⟩
abbrev mu_X7_findByWorth (c_a1 : Nat → Int32) : KM := (yX7_findByWorth, cX7_findByWorth, 4, none, { frames := 4, cells := 0, slots := 0, locals := 92 }, [(1000, 8, c_a1)], [])
def w_X7_findByWorth (c_aimed_askers : Int32) (c_aimed_places : Int32) (c_aimed_seatBits : Int32) (c_aimed_entries : Int32) (c_board_askers : Int32) (c_board_places : Int32) (c_row : Nat → Int32) (c_aimed_best : Nat → Int32) (c_aimed_clipAll : Nat → Int32) (c_aimed_clipToOne : Nat → Int32) (c_aimed_clipToTwo : Nat → Int32) (c_aimed_firstOf : Nat → Int32) (c_aimed_gains : Nat → Int32) (c_aimed_left : Nat → Int32) (c_aimed_next : Nat → Int32) (c_aimed_solvedGains : Nat → Int32) (c_aimed_ways : Nat → Int32) (c_all_slots : Nat → Int32) (c_board_seats : Nat → Int32) (c_board_wishes : Nat → Int32) (u_above : Int64) (u_below : Int64) (u_board_age : Int32) : List mE := [.inr (7, [.ref 2, .ref 1001, .ref 1002, .ref 1, .ref 1003, .ref 1004, .ref 1005, .ref 1006, .ref 1007, .ref 3, .long u_above, .long u_below]), .inr (4, [.ref 2, .ref 9, .ref 12, .int c_aimed_askers, .int c_aimed_places, .int c_aimed_seatBits, .ref 10, .ref 4, .ref 13, .ref 11, .ref 8, .int c_aimed_entries, .ref 14, .ref 5, .ref 6, .ref 7]), .inr (0, [.int c_board_askers, .int c_board_places, .int u_board_age, .ref 15, .ref 16, .ref 1008, .ref 1009]), .inl (0, 8, .inl c_row), .inl (0, 1056, .inl c_aimed_best), .inl (0, 9, .inl c_aimed_clipAll), .inl (0, 9, .inl c_aimed_clipToOne), .inl (0, 9, .inl c_aimed_clipToTwo), .inl (0, 10, .inl c_aimed_firstOf), .inl (0, 56, .inl c_aimed_gains), .inl (0, 1056, .inl c_aimed_left), .inl (0, 7392, .inl c_aimed_next), .inl (0, 56, .inl c_aimed_solvedGains), .inl (0, 1056, .inl c_aimed_ways), .inl (0, 4096, .inl c_all_slots), .inl (0, 6, .inl c_board_seats), .inl (0, 48, .inl c_board_wishes)]
theorem cwz_X7_findByWorth : CWv (mu_X7_findByWorth (fun _ => 0)) 1 := ⟨⟨all_of 471 (by decide +kernel) (by decide +kernel), all_of 1 (by decide +kernel) (by decide +kernel), by decide +kernel, by decide +kernel, by decide +kernel⟩, all_of 470 (by decide +kernel) (by decide +kernel), all_pr 16 (by decide +kernel) (by decide +kernel)⟩
theorem cw_X7_findByWorth {c_a1 : Nat → Int32} : CWv (mu_X7_findByWorth c_a1) 1 := cwz_X7_findByWorth
abbrev mu_X7_solveVotes : KM := (yX7_solveVotes, cX7_solveVotes, 9, none, { frames := 4, cells := 0, slots := 0, locals := 92 }, [], [])
def w_X7_solveVotes (c_aimed_askers : Int32) (c_aimed_places : Int32) (c_aimed_seatBits : Int32) (c_aimed_entries : Int32) (c_board_askers : Int32) (c_board_places : Int32) (c_aimed_best : Nat → Int32) (c_aimed_clipAll : Nat → Int32) (c_aimed_clipToOne : Nat → Int32) (c_aimed_clipToTwo : Nat → Int32) (c_aimed_firstOf : Nat → Int32) (c_aimed_gains : Nat → Int32) (c_aimed_left : Nat → Int32) (c_aimed_next : Nat → Int32) (c_aimed_solvedGains : Nat → Int32) (c_aimed_ways : Nat → Int32) (c_all_slots : Nat → Int32) (c_board_seats : Nat → Int32) (c_board_told : Nat → Int32) (c_board_wishes : Nat → Int32) (u_above : Int64) (u_below : Int64) (u_board_age : Int32) : List mE := [.inr (7, [.ref 2, .ref 1000, .ref 1001, .ref 1, .ref 1002, .ref 1003, .ref 1004, .ref 1005, .ref 1006, .ref 1007, .long u_above, .long u_below]), .inr (4, [.ref 2, .ref 8, .ref 11, .int c_aimed_askers, .int c_aimed_places, .int c_aimed_seatBits, .ref 9, .ref 3, .ref 12, .ref 10, .ref 7, .int c_aimed_entries, .ref 13, .ref 4, .ref 5, .ref 6]), .inr (0, [.int c_board_askers, .int c_board_places, .int u_board_age, .ref 14, .ref 16, .ref 1008, .ref 15]), .inl (0, 1056, .inl c_aimed_best), .inl (0, 9, .inl c_aimed_clipAll), .inl (0, 9, .inl c_aimed_clipToOne), .inl (0, 9, .inl c_aimed_clipToTwo), .inl (0, 10, .inl c_aimed_firstOf), .inl (0, 56, .inl c_aimed_gains), .inl (0, 1056, .inl c_aimed_left), .inl (0, 7392, .inl c_aimed_next), .inl (0, 56, .inl c_aimed_solvedGains), .inl (0, 1056, .inl c_aimed_ways), .inl (0, 4096, .inl c_all_slots), .inl (0, 6, .inl c_board_seats), .inl (0, 32, .inl c_board_told), .inl (0, 48, .inl c_board_wishes)]
theorem cw_X7_solveVotes : CWv mu_X7_solveVotes 3 := ⟨⟨all_of 479 (by decide +kernel) (by decide +kernel), all_of 1 (by decide +kernel) (by decide +kernel), by decide +kernel, by decide +kernel, by decide +kernel⟩, all_of 478 (by decide +kernel) (by decide +kernel), all_pr 17 (by decide +kernel) (by decide +kernel)⟩
abbrev mu_X7_copyTold : KM := (yX7_copyTold, cX7_copyTold, 3, none, { frames := 1, cells := 0, slots := 0, locals := 22 }, [], [])
def w_X7_copyTold (c_board_askers : Int32) (c_row : Nat → Int32) (c_board_told : Nat → Int32) (u_above : Int64) (u_below : Int64) (u_board_places : Int32) (u_board_age : Int32) : List mE := [.inr (7, [.ref 1, .ref 1000, .ref 1001, .ref 1002, .ref 1003, .ref 1004, .ref 1005, .ref 1006, .ref 1007, .ref 2, .long u_above, .long u_below]), .inr (0, [.int c_board_askers, .int u_board_places, .int u_board_age, .ref 1008, .ref 1009, .ref 1010, .ref 3]), .inl (0, 8, .inl c_row), .inl (0, 32, .inl c_board_told)]
theorem cw_X7_copyTold : CWv mu_X7_copyTold 1 := ⟨⟨all_of 518 (by decide +kernel) (by decide +kernel), all_of 1 (by decide +kernel) (by decide +kernel), by decide +kernel, by decide +kernel, by decide +kernel⟩, all_of 517 (by decide +kernel) (by decide +kernel), all_pr 24 (by decide +kernel) (by decide +kernel)⟩
abbrev mu_X7_findRow : KM := (yX7_findRow, cX7_findRow, 3, none, { frames := 5, cells := 0, slots := 0, locals := 120 }, [(1000, 8, ro_FAIREST_GAINS), (1001, 8, ro_FIRSTS_GAINS), (1002, 8, ro_MOST_GAINS)], [("WishPlaces", "FAIREST_GAINS", 1000), ("WishPlaces", "FIRSTS_GAINS", 1001), ("WishPlaces", "MOST_GAINS", 1002)])
def w_X7_findRow (c_aimed_askers : Int32) (c_aimed_places : Int32) (c_aimed_seatBits : Int32) (c_aimed_entries : Int32) (c_board_askers : Int32) (c_board_places : Int32) (c_row : Nat → Int32) (c_aimed_best : Nat → Int32) (c_aimed_clipAll : Nat → Int32) (c_aimed_clipToOne : Nat → Int32) (c_aimed_clipToTwo : Nat → Int32) (c_aimed_firstOf : Nat → Int32) (c_aimed_gains : Nat → Int32) (c_aimed_left : Nat → Int32) (c_aimed_next : Nat → Int32) (c_aimed_solvedGains : Nat → Int32) (c_aimed_ways : Nat → Int32) (c_all_slots : Nat → Int32) (c_board_seats : Nat → Int32) (c_board_told : Nat → Int32) (c_board_wishes : Nat → Int32) (c_trade_gets : Nat → Int32) (c_trade_holderOf : Nat → Int32) (c_trade_holds : Nat → Int32) (c_trade_pointsAt : Nat → Int32) (c_trade_servedIn : Nat → Int32) (u_above : Int64) (u_below : Int64) (u_board_age : Int32) : List mE := [.inr (7, [.ref 2, .ref 1003, .ref 1004, .ref 1, .ref 1005, .ref 4, .ref 1006, .ref 1007, .ref 1008, .ref 3, .long u_above, .long u_below]), .inr (4, [.ref 2, .ref 10, .ref 13, .int c_aimed_askers, .int c_aimed_places, .int c_aimed_seatBits, .ref 11, .ref 5, .ref 14, .ref 12, .ref 9, .int c_aimed_entries, .ref 15, .ref 6, .ref 7, .ref 8]), .inr (0, [.int c_board_askers, .int c_board_places, .int u_board_age, .ref 16, .ref 18, .ref 1009, .ref 17]), .inl (0, 8, .inl c_row), .inr (6, [.ref 2, .ref 19, .ref 23, .ref 21, .ref 22, .ref 20]), .inl (0, 1056, .inl c_aimed_best), .inl (0, 9, .inl c_aimed_clipAll), .inl (0, 9, .inl c_aimed_clipToOne), .inl (0, 9, .inl c_aimed_clipToTwo), .inl (0, 10, .inl c_aimed_firstOf), .inl (0, 56, .inl c_aimed_gains), .inl (0, 1056, .inl c_aimed_left), .inl (0, 7392, .inl c_aimed_next), .inl (0, 56, .inl c_aimed_solvedGains), .inl (0, 1056, .inl c_aimed_ways), .inl (0, 4096, .inl c_all_slots), .inl (0, 6, .inl c_board_seats), .inl (0, 32, .inl c_board_told), .inl (0, 48, .inl c_board_wishes), .inl (0, 8, .inl c_trade_gets), .inl (0, 6, .inl c_trade_holderOf), .inl (0, 8, .inl c_trade_holds), .inl (0, 8, .inl c_trade_pointsAt), .inl (0, 8, .inl c_trade_servedIn)]
theorem cw_X7_findRow : CWv mu_X7_findRow 2 := ⟨⟨all_of 465 (by decide +kernel) (by decide +kernel), all_of 1 (by decide +kernel) (by decide +kernel), by decide +kernel, by decide +kernel, by decide +kernel⟩, all_of 464 (by decide +kernel) (by decide +kernel), all_pr 15 (by decide +kernel) (by decide +kernel)⟩
abbrev mu_X7_become : KM := (yX7_become, cX7_become, 4, (some .int), { frames := 6, cells := 0, slots := 0, locals := 142 }, [(1000, 8, ro_FAIREST_GAINS), (1001, 8, ro_FIRSTS_GAINS), (1002, 8, ro_MOST_GAINS)], [("WishPlaces", "FAIREST_GAINS", 1000), ("WishPlaces", "FIRSTS_GAINS", 1001), ("WishPlaces", "MOST_GAINS", 1002)])
def w_X7_become (c_aimed_askers : Int32) (c_aimed_places : Int32) (c_aimed_seatBits : Int32) (c_aimed_entries : Int32) (c_board_askers : Int32) (c_board_places : Int32) (c_row : Nat → Int32) (c_aimed_best : Nat → Int32) (c_aimed_clipAll : Nat → Int32) (c_aimed_clipToOne : Nat → Int32) (c_aimed_clipToTwo : Nat → Int32) (c_aimed_firstOf : Nat → Int32) (c_aimed_gains : Nat → Int32) (c_aimed_left : Nat → Int32) (c_aimed_next : Nat → Int32) (c_aimed_solvedGains : Nat → Int32) (c_aimed_ways : Nat → Int32) (c_all_slots : Nat → Int32) (c_board_seats : Nat → Int32) (c_board_told : Nat → Int32) (c_board_wishes : Nat → Int32) (c_trade_gets : Nat → Int32) (c_trade_holderOf : Nat → Int32) (c_trade_holds : Nat → Int32) (c_trade_pointsAt : Nat → Int32) (c_trade_servedIn : Nat → Int32) (u_above : Int64) (u_below : Int64) (u_board_age : Int32) : List mE := [.inr (7, [.ref 2, .ref 1003, .ref 1004, .ref 1, .ref 1005, .ref 4, .ref 1006, .ref 1007, .ref 1008, .ref 3, .long u_above, .long u_below]), .inr (4, [.ref 2, .ref 10, .ref 13, .int c_aimed_askers, .int c_aimed_places, .int c_aimed_seatBits, .ref 11, .ref 5, .ref 14, .ref 12, .ref 9, .int c_aimed_entries, .ref 15, .ref 6, .ref 7, .ref 8]), .inr (0, [.int c_board_askers, .int c_board_places, .int u_board_age, .ref 16, .ref 18, .ref 1009, .ref 17]), .inl (0, 8, .inl c_row), .inr (6, [.ref 2, .ref 19, .ref 23, .ref 21, .ref 22, .ref 20]), .inl (0, 1056, .inl c_aimed_best), .inl (0, 9, .inl c_aimed_clipAll), .inl (0, 9, .inl c_aimed_clipToOne), .inl (0, 9, .inl c_aimed_clipToTwo), .inl (0, 10, .inl c_aimed_firstOf), .inl (0, 56, .inl c_aimed_gains), .inl (0, 1056, .inl c_aimed_left), .inl (0, 7392, .inl c_aimed_next), .inl (0, 56, .inl c_aimed_solvedGains), .inl (0, 1056, .inl c_aimed_ways), .inl (0, 4096, .inl c_all_slots), .inl (0, 6, .inl c_board_seats), .inl (0, 32, .inl c_board_told), .inl (0, 48, .inl c_board_wishes), .inl (0, 8, .inl c_trade_gets), .inl (0, 6, .inl c_trade_holderOf), .inl (0, 8, .inl c_trade_holds), .inl (0, 8, .inl c_trade_pointsAt), .inl (0, 8, .inl c_trade_servedIn)]
theorem cw_X7_become : CWv mu_X7_become 2 := ⟨⟨all_of 461 (by decide +kernel) (by decide +kernel), all_of 1 (by decide +kernel) (by decide +kernel), by decide +kernel, by decide +kernel, by decide +kernel⟩, all_of 459 (by decide +kernel) (by decide +kernel), all_of 460 (by decide +kernel) (by decide +kernel)⟩
abbrev mu_X7_has : KM := (yX7_has, cX7_has, 3, (some .int), { frames := 1, cells := 0, slots := 0, locals := 22 }, [], [])
def w_X7_has (c_board_askers : Int32) (c_board_told : Nat → Int32) (u_above : Int64) (u_below : Int64) (u_board_places : Int32) (u_board_age : Int32) : List mE := [.inr (7, [.ref 1, .ref 1000, .ref 1001, .ref 1002, .ref 1003, .ref 1004, .ref 1005, .ref 1006, .ref 1007, .ref 1008, .long u_above, .long u_below]), .inr (0, [.int c_board_askers, .int u_board_places, .int u_board_age, .ref 1009, .ref 1010, .ref 1011, .ref 2]), .inl (0, 32, .inl c_board_told)]
theorem cw_X7_has : CWv mu_X7_has 2 := ⟨⟨all_of 523 (by decide +kernel) (by decide +kernel), all_of 1 (by decide +kernel) (by decide +kernel), by decide +kernel, by decide +kernel, by decide +kernel⟩, all_of 521 (by decide +kernel) (by decide +kernel), all_of 522 (by decide +kernel) (by decide +kernel)⟩
abbrev mu_X7_placeOf : KM := (yX7_placeOf, cX7_placeOf, 2, (some .long), { frames := 5, cells := 0, slots := 0, locals := 114 }, [], [])
def w_X7_placeOf (c_all_askers : Int32) (c_all_places : Int32) (c_all_seatBits : Int32) (c_all_entries : Int32) (c_board_askers : Int32) (c_board_places : Int32) (c_row : Nat → Int32) (c_all_best : Nat → Int32) (c_all_clipAll : Nat → Int32) (c_all_clipToOne : Nat → Int32) (c_all_clipToTwo : Nat → Int32) (c_all_firstOf : Nat → Int32) (c_all_gains : Nat → Int32) (c_all_left : Nat → Int32) (c_all_next : Nat → Int32) (c_all_slots : Nat → Int32) (c_all_solvedGains : Nat → Int32) (c_all_ways : Nat → Int32) (c_board_seats : Nat → Int32) (c_board_told : Nat → Int32) (c_board_wishes : Nat → Int32) (u_above : Int64) (u_below : Int64) (u_board_age : Int32) : List mE := [.inr (7, [.ref 2, .ref 1, .ref 1000, .ref 1001, .ref 1002, .ref 1003, .ref 1004, .ref 1005, .ref 1006, .ref 3, .long u_above, .long u_below]), .inr (4, [.ref 2, .ref 9, .ref 13, .int c_all_askers, .int c_all_places, .int c_all_seatBits, .ref 10, .ref 4, .ref 14, .ref 11, .ref 8, .int c_all_entries, .ref 12, .ref 5, .ref 6, .ref 7]), .inr (0, [.int c_board_askers, .int c_board_places, .int u_board_age, .ref 15, .ref 17, .ref 1007, .ref 16]), .inl (0, 8, .inl c_row), .inl (0, 1056, .inl c_all_best), .inl (0, 9, .inl c_all_clipAll), .inl (0, 9, .inl c_all_clipToOne), .inl (0, 9, .inl c_all_clipToTwo), .inl (0, 10, .inl c_all_firstOf), .inl (0, 56, .inl c_all_gains), .inl (0, 1056, .inl c_all_left), .inl (0, 7392, .inl c_all_next), .inl (0, 4096, .inl c_all_slots), .inl (0, 56, .inl c_all_solvedGains), .inl (0, 1056, .inl c_all_ways), .inl (0, 6, .inl c_board_seats), .inl (0, 32, .inl c_board_told), .inl (0, 48, .inl c_board_wishes)]
theorem cw_X7_placeOf : CWv mu_X7_placeOf 1 := ⟨⟨all_of 527 (by decide +kernel) (by decide +kernel), all_of 1 (by decide +kernel) (by decide +kernel), by decide +kernel, by decide +kernel, by decide +kernel⟩, all_of 525 (by decide +kernel) (by decide +kernel), all_of 526 (by decide +kernel) (by decide +kernel)⟩
abbrev mu_X7_many : KM := (yX7_many, cX7_many, 5, (some .int), { frames := 2, cells := 0, slots := 0, locals := 45 }, [], [])
def w_X7_many (c_board_askers : Int32) (c_board_told : Nat → Int32) (c_board_wishes : Nat → Int32) (u_above : Int64) (u_below : Int64) (u_board_places : Int32) (u_board_age : Int32) : List mE := [.inr (7, [.ref 1, .ref 1000, .ref 1001, .ref 1002, .ref 1003, .ref 1004, .ref 1005, .ref 1006, .ref 1007, .ref 1008, .long u_above, .long u_below]), .inr (0, [.int c_board_askers, .int u_board_places, .int u_board_age, .ref 1009, .ref 3, .ref 1010, .ref 2]), .inl (0, 32, .inl c_board_told), .inl (0, 48, .inl c_board_wishes)]
theorem cw_X7_many : CWv mu_X7_many 2 := ⟨⟨all_of 536 (by decide +kernel) (by decide +kernel), all_of 1 (by decide +kernel) (by decide +kernel), by decide +kernel, by decide +kernel, by decide +kernel⟩, all_of 534 (by decide +kernel) (by decide +kernel), all_of 535 (by decide +kernel) (by decide +kernel)⟩
abbrev mu_X7_countRisers : KM := (yX7_countRisers, cX7_countRisers, 4, (some .int), { frames := 2, cells := 0, slots := 0, locals := 45 }, [], [])
def w_X7_countRisers (c_board_askers : Int32) (c_row : Nat → Int32) (c_board_told : Nat → Int32) (c_board_wishes : Nat → Int32) (u_above : Int64) (u_below : Int64) (u_board_places : Int32) (u_board_age : Int32) : List mE := [.inr (7, [.ref 1, .ref 1000, .ref 1001, .ref 1002, .ref 1003, .ref 1004, .ref 1005, .ref 1006, .ref 1007, .ref 2, .long u_above, .long u_below]), .inr (0, [.int c_board_askers, .int u_board_places, .int u_board_age, .ref 1008, .ref 4, .ref 1009, .ref 3]), .inl (0, 8, .inl c_row), .inl (0, 32, .inl c_board_told), .inl (0, 48, .inl c_board_wishes)]
theorem cw_X7_countRisers : CWv mu_X7_countRisers 1 := ⟨⟨all_of 544 (by decide +kernel) (by decide +kernel), all_of 1 (by decide +kernel) (by decide +kernel), by decide +kernel, by decide +kernel, by decide +kernel⟩, all_of 543 (by decide +kernel) (by decide +kernel), all_pr 25 (by decide +kernel) (by decide +kernel)⟩
set_option maxRecDepth 20000 in
theorem dX7_asker_0 : decode cX7_asker 0 = .ok (.aload_n 0, 1) := by decide +kernel
set_option maxRecDepth 20000 in
theorem dX7_asker_1 : decode cX7_asker 1 = .ok (.getfield 10, 3) := by decide +kernel
set_option maxRecDepth 20000 in
theorem dX7_asker_4 : decode cX7_asker 4 = .ok (.getfield 79, 3) := by decide +kernel
set_option maxRecDepth 20000 in
theorem dX7_asker_7 : decode cX7_asker 7 = .ok (.bipush 8, 2) := by decide +kernel
set_option maxRecDepth 20000 in
theorem dX7_asker_9 : decode cX7_asker 9 = .ok (.if_icmp .lt 6, 3) := by decide +kernel
set_option maxRecDepth 20000 in
theorem dX7_asker_12 : decode cX7_asker 12 = .ok (.bipush (-4), 2) := by decide +kernel
set_option maxRecDepth 20000 in
theorem dX7_asker_14 : decode cX7_asker 14 = .ok (.ireturn, 1) := by decide +kernel
set_option maxRecDepth 20000 in
theorem dX7_asker_15 : decode cX7_asker 15 = .ok (.aload_n 0, 1) := by decide +kernel
set_option maxRecDepth 20000 in
theorem dX7_asker_16 : decode cX7_asker 16 = .ok (.getfield 10, 3) := by decide +kernel
set_option maxRecDepth 20000 in
theorem dX7_asker_19 : decode cX7_asker 19 = .ok (.invokevirtual 83, 3) := by decide +kernel
set_option maxRecDepth 20000 in
theorem dX7_asker_22 : decode cX7_asker 22 = .ok (.ireturn, 1) := by decide +kernel
def f_X7_asker (N : Nat) (c_board_askers : Int32) (c_board_age : Int32)  : Option (Int32 × Int32 × Int32) :=
  (if c_board_askers < 8 then
    (f_X0_addAsker N c_board_askers c_board_age).bind fun (r2, o3, o4) =>
    some (r2, o3, o4)
  else
    some ((-4 : Int32), c_board_askers, c_board_age))
set_option maxHeartbeats 4000000 in
set_option maxRecDepth 100000 in
theorem c_X7_asker {N : Nat}  {c_board_askers : Int32} {c_board_age : Int32} {u_above : Int64} {u_below : Int64} {u_board_places : Int32}  {res : Int32 × Int32 × Int32} (hf : f_X7_asker N c_board_askers c_board_age = some res) : Con mu_X7_asker [.ref 0] (w_X7_asker c_board_askers c_board_age u_above u_below u_board_places) (some (.int res.1)) (w_X7_asker res.2.1 res.2.2 u_above u_below u_board_places) := by
  refine Con.mk (show plainName RX7 = true by decide +kernel) (leb rfl) (fun κ ω A ad => ?_)
  change GG mu_X7_asker κ ω A (QR κ ω A ad (some (.int res.1)) (w_X7_asker res.2.1 res.2.2 u_above u_below u_board_places)) ad 0 0 0 (w_X7_asker c_board_askers c_board_age u_above u_below u_board_places) [some (.ref 0)] []
  refine G_aload_n dX7_asker_0 rfl rfl ?_
  refine G_get (v := .ref 1) F_X7_10 dX7_asker_1 rfl rfl ?_
  refine G_get (v := .int c_board_askers) F_X7_79 dX7_asker_4 rfl rfl ?_
  refine G_bipush 8 dX7_asker_7 (by decide) ?_
  refine G_icmp_lt 15 dX7_asker_9 (by decide) (fun h1 => ?_) (fun h1 => ?_)
  · replace hf := ob_t h1 hf
    refine G_aload_n dX7_asker_15 rfl rfl ?_
    refine G_get (v := .ref 1) F_X7_10 dX7_asker_16 rfl rfl ?_
    obtain ⟨⟨r2, o3, o4⟩, hc5, hf⟩ := ob hf
    refine G_callV (μ2 := mu_X0_addAsker) (As := []) (w2 := (w_X7_asker o3 o4 u_above u_below u_board_places)) (wc := (w_X0_addAsker c_board_askers c_board_age u_board_places)) (wc2 := (w_X0_addAsker o3 o4 u_board_places)) (rest := []) (rv := [.int r2]) [1] [1009, 1010, 1011, 1012] [0] [0, 1] (c_X0_addAsker hc5) cw_X0_addAsker m_X7_83 dX7_asker_19 rfl ⟨leb rfl, leb rfl⟩ ⟨rfl, rfl⟩ rfl ⟨_, rfl, rfl⟩ (Fit.mk rfl rfl rfl) rfl (leb rfl) (ROsub.nil rfl rfl) rfl ?_
    change GG _ _ _ _ _ _ _ _ _ (w_X7_asker o3 o4 u_above u_below u_board_places) [some (.ref 0)] [.int r2]
    obtain rfl := os hf
    exact G_ireturn dX7_asker_22 rfl
  · replace hf := ob_f h1 hf
    refine G_bipush (-4 : Int32) dX7_asker_12 (by decide) ?_
    obtain rfl := os hf
    exact G_ireturn dX7_asker_14 rfl
set_option maxRecDepth 20000 in
theorem dX7_isSeats_0 : decode cX7_isSeats 0 = .ok (.iload_n 0, 1) := by decide +kernel
set_option maxRecDepth 20000 in
theorem dX7_isSeats_1 : decode cX7_isSeats 1 = .ok (.iconst 1, 1) := by decide +kernel
set_option maxRecDepth 20000 in
theorem dX7_isSeats_2 : decode cX7_isSeats 2 = .ok (.if_icmp .lt 12, 3) := by decide +kernel
set_option maxRecDepth 20000 in
theorem dX7_isSeats_5 : decode cX7_isSeats 5 = .ok (.iload_n 0, 1) := by decide +kernel
set_option maxRecDepth 20000 in
theorem dX7_isSeats_6 : decode cX7_isSeats 6 = .ok (.iconst 3, 1) := by decide +kernel
set_option maxRecDepth 20000 in
theorem dX7_isSeats_7 : decode cX7_isSeats 7 = .ok (.if_icmp .gt 7, 3) := by decide +kernel
set_option maxRecDepth 20000 in
theorem dX7_isSeats_10 : decode cX7_isSeats 10 = .ok (.iconst 1, 1) := by decide +kernel
set_option maxRecDepth 20000 in
theorem dX7_isSeats_11 : decode cX7_isSeats 11 = .ok (.goto 4, 3) := by decide +kernel
set_option maxRecDepth 20000 in
theorem dX7_isSeats_14 : decode cX7_isSeats 14 = .ok (.iconst 0, 1) := by decide +kernel
set_option maxRecDepth 20000 in
theorem dX7_isSeats_15 : decode cX7_isSeats 15 = .ok (.ireturn, 1) := by decide +kernel
def f_X7_isSeats (N : Nat)  (a0 : Int32) : Option (Int32) :=
  (if a0 < 1 then
    some 0
  else
    (if 3 < a0 then
      some 0
    else
      some 1))
set_option maxHeartbeats 4000000 in
set_option maxRecDepth 100000 in
theorem c_X7_isSeats {N : Nat}    {a0 : Int32} {res : Int32} (hf : f_X7_isSeats N a0 = some res) : Con mu_X7_isSeats [.int a0] [] (some (.int res)) [] := by
  refine Con.mk (show plainName RX7 = true by decide +kernel) (leb rfl) (fun κ ω A ad => ?_)
  change GG mu_X7_isSeats κ ω A (QR κ ω A ad (some (.int res)) []) ad 0 0 0 [] [some (.int a0)] []
  refine G_iload_n dX7_isSeats_0 rfl rfl ?_
  refine G_iconst 1 dX7_isSeats_1 (by decide) ?_
  refine G_icmp_lt 14 dX7_isSeats_2 (by decide) (fun h1 => ?_) (fun h1 => ?_)
  · replace hf := ob_t h1 hf
    refine G_iconst 0 dX7_isSeats_14 (by decide) ?_
    obtain rfl := os hf
    exact G_zreturn dX7_isSeats_15 rfl z_0
  · replace hf := ob_f h1 hf
    refine G_iload_n dX7_isSeats_5 rfl rfl ?_
    refine G_iconst 3 dX7_isSeats_6 (by decide) ?_
    refine G_icmp_gt 14 dX7_isSeats_7 (by decide) (fun h2 => ?_) (fun h2 => ?_)
    · replace hf := ob_t h2 hf
      refine G_iconst 0 dX7_isSeats_14 (by decide) ?_
      obtain rfl := os hf
      exact G_zreturn dX7_isSeats_15 rfl z_0
    · replace hf := ob_f h2 hf
      refine G_iconst 1 dX7_isSeats_10 (by decide) ?_
      refine G_goto 15 dX7_isSeats_11 (by decide) ?_
      obtain rfl := os hf
      exact G_zreturn dX7_isSeats_15 rfl z_1
set_option maxRecDepth 20000 in
theorem dX7_place_0 : decode cX7_place 0 = .ok (.iload_n 1, 1) := by decide +kernel
set_option maxRecDepth 20000 in
theorem dX7_place_1 : decode cX7_place 1 = .ok (.invokestatic 87, 3) := by decide +kernel
set_option maxRecDepth 20000 in
theorem dX7_place_4 : decode cX7_place 4 = .ok (.ifCond .ne 6, 3) := by decide +kernel
set_option maxRecDepth 20000 in
theorem dX7_place_7 : decode cX7_place 7 = .ok (.bipush (-2), 2) := by decide +kernel
set_option maxRecDepth 20000 in
theorem dX7_place_9 : decode cX7_place 9 = .ok (.ireturn, 1) := by decide +kernel
set_option maxRecDepth 20000 in
theorem dX7_place_10 : decode cX7_place 10 = .ok (.aload_n 0, 1) := by decide +kernel
set_option maxRecDepth 20000 in
theorem dX7_place_11 : decode cX7_place 11 = .ok (.getfield 10, 3) := by decide +kernel
set_option maxRecDepth 20000 in
theorem dX7_place_14 : decode cX7_place 14 = .ok (.getfield 91, 3) := by decide +kernel
set_option maxRecDepth 20000 in
theorem dX7_place_17 : decode cX7_place 17 = .ok (.bipush 6, 2) := by decide +kernel
set_option maxRecDepth 20000 in
theorem dX7_place_19 : decode cX7_place 19 = .ok (.if_icmp .lt 6, 3) := by decide +kernel
set_option maxRecDepth 20000 in
theorem dX7_place_22 : decode cX7_place 22 = .ok (.bipush (-4), 2) := by decide +kernel
set_option maxRecDepth 20000 in
theorem dX7_place_24 : decode cX7_place 24 = .ok (.ireturn, 1) := by decide +kernel
set_option maxRecDepth 20000 in
theorem dX7_place_25 : decode cX7_place 25 = .ok (.aload_n 0, 1) := by decide +kernel
set_option maxRecDepth 20000 in
theorem dX7_place_26 : decode cX7_place 26 = .ok (.getfield 10, 3) := by decide +kernel
set_option maxRecDepth 20000 in
theorem dX7_place_29 : decode cX7_place 29 = .ok (.iload_n 1, 1) := by decide +kernel
set_option maxRecDepth 20000 in
theorem dX7_place_30 : decode cX7_place 30 = .ok (.invokevirtual 94, 3) := by decide +kernel
set_option maxRecDepth 20000 in
theorem dX7_place_33 : decode cX7_place 33 = .ok (.ireturn, 1) := by decide +kernel
def f_X7_place (N : Nat) (c_board_places : Int32) (c_board_age : Int32) (c_board_seats : Nat → Int32) (a1 : Int32) : Option (Int32 × Int32 × Int32 × (Nat → Int32)) :=
  (f_X7_isSeats N a1).bind fun r1 =>
  (if r1 = 0 then
    some ((-2 : Int32), c_board_places, c_board_age, c_board_seats)
  else
    (if c_board_places < 6 then
      (f_X0_addPlace N c_board_places c_board_age c_board_seats a1).bind fun (r5, o6, o7, o8) =>
      some (r5, o6, o7, o8)
    else
      some ((-4 : Int32), c_board_places, c_board_age, c_board_seats)))
set_option maxHeartbeats 4000000 in
set_option maxRecDepth 100000 in
theorem c_X7_place {N : Nat}  {c_board_places : Int32} {c_board_age : Int32} {c_board_seats : Nat → Int32} {u_above : Int64} {u_below : Int64} {u_board_askers : Int32} {a1 : Int32} {res : Int32 × Int32 × Int32 × (Nat → Int32)} (hf : f_X7_place N c_board_places c_board_age c_board_seats a1 = some res) : Con mu_X7_place [.ref 0, .int a1] (w_X7_place c_board_places c_board_age c_board_seats u_above u_below u_board_askers) (some (.int res.1)) (w_X7_place res.2.1 res.2.2.1 res.2.2.2 u_above u_below u_board_askers) := by
  refine Con.mk (show plainName RX7 = true by decide +kernel) (leb rfl) (fun κ ω A ad => ?_)
  change GG mu_X7_place κ ω A (QR κ ω A ad (some (.int res.1)) (w_X7_place res.2.1 res.2.2.1 res.2.2.2 u_above u_below u_board_askers)) ad 0 0 0 (w_X7_place c_board_places c_board_age c_board_seats u_above u_below u_board_askers) [some (.ref 0), some (.int a1)] []
  refine G_iload_n dX7_place_0 rfl rfl ?_
  obtain ⟨r1, hc2, hf⟩ := ob hf
  refine G_callS (μ2 := mu_X7_isSeats) (As := [.int a1]) (w2 := (w_X7_place c_board_places c_board_age c_board_seats u_above u_below u_board_askers)) (wc := []) (wc2 := []) (rest := []) (rv := [.int r1]) [] [] [0, 1, 2] [0, 1, 2] (c_X7_isSeats hc2) cw_X7_isSeats m_X7_87 rfl dX7_place_1 rfl ⟨leb rfl, leb rfl⟩ ⟨rfl, rfl⟩ (Fit.mk rfl rfl rfl) rfl (leb rfl) (ROsub.nil rfl rfl) rfl ?_
  change GG _ _ _ _ _ _ _ _ _ (w_X7_place c_board_places c_board_age c_board_seats u_above u_below u_board_askers) [some (.ref 0), some (.int a1)] [.int r1]
  refine G_if_ne 10 dX7_place_4 (by decide) (fun h3 => ?_) (fun h3 => ?_)
  · replace hf := ob_f h3 hf
    refine G_aload_n dX7_place_10 rfl rfl ?_
    refine G_get (v := .ref 1) F_X7_10 dX7_place_11 rfl rfl ?_
    refine G_get (v := .int c_board_places) F_X7_91 dX7_place_14 rfl rfl ?_
    refine G_bipush 6 dX7_place_17 (by decide) ?_
    refine G_icmp_lt 25 dX7_place_19 (by decide) (fun h4 => ?_) (fun h4 => ?_)
    · replace hf := ob_t h4 hf
      refine G_aload_n dX7_place_25 rfl rfl ?_
      refine G_get (v := .ref 1) F_X7_10 dX7_place_26 rfl rfl ?_
      refine G_iload_n dX7_place_29 rfl rfl ?_
      obtain ⟨⟨r5, o6, o7, o8⟩, hc9, hf⟩ := ob hf
      refine G_callV (μ2 := mu_X0_addPlace) (As := [.int a1]) (w2 := (w_X7_place o6 o7 o8 u_above u_below u_board_askers)) (wc := (w_X0_addPlace c_board_places c_board_age c_board_seats u_board_askers)) (wc2 := (w_X0_addPlace o6 o7 o8 u_board_askers)) (rest := []) (rv := [.int r5]) [1, 2] [1009, 1010, 1011] [0] [0, 1, 2] (c_X0_addPlace hc9) cw_X0_addPlace m_X7_94 dX7_place_30 rfl ⟨leb rfl, leb rfl⟩ ⟨rfl, rfl⟩ rfl ⟨_, rfl, rfl⟩ (Fit.mk rfl rfl rfl) rfl (leb rfl) (ROsub.nil rfl rfl) rfl ?_
      change GG _ _ _ _ _ _ _ _ _ (w_X7_place o6 o7 o8 u_above u_below u_board_askers) [some (.ref 0), some (.int a1)] [.int r5]
      obtain rfl := os hf
      exact G_ireturn dX7_place_33 rfl
    · replace hf := ob_f h4 hf
      refine G_bipush (-4 : Int32) dX7_place_22 (by decide) ?_
      obtain rfl := os hf
      exact G_ireturn dX7_place_24 rfl
  · replace hf := ob_t h3 hf
    refine G_bipush (-2 : Int32) dX7_place_7 (by decide) ?_
    obtain rfl := os hf
    exact G_ireturn dX7_place_9 rfl
set_option maxRecDepth 20000 in
theorem dX7_seats_0 : decode cX7_seats 0 = .ok (.aload_n 0, 1) := by decide +kernel
set_option maxRecDepth 20000 in
theorem dX7_seats_1 : decode cX7_seats 1 = .ok (.getfield 10, 3) := by decide +kernel
set_option maxRecDepth 20000 in
theorem dX7_seats_4 : decode cX7_seats 4 = .ok (.iload_n 1, 1) := by decide +kernel
set_option maxRecDepth 20000 in
theorem dX7_seats_5 : decode cX7_seats 5 = .ok (.invokevirtual 98, 3) := by decide +kernel
set_option maxRecDepth 20000 in
theorem dX7_seats_8 : decode cX7_seats 8 = .ok (.ifCond .eq 10, 3) := by decide +kernel
set_option maxRecDepth 20000 in
theorem dX7_seats_11 : decode cX7_seats 11 = .ok (.iload_n 2, 1) := by decide +kernel
set_option maxRecDepth 20000 in
theorem dX7_seats_12 : decode cX7_seats 12 = .ok (.invokestatic 87, 3) := by decide +kernel
set_option maxRecDepth 20000 in
theorem dX7_seats_15 : decode cX7_seats 15 = .ok (.ifCond .ne 6, 3) := by decide +kernel
set_option maxRecDepth 20000 in
theorem dX7_seats_18 : decode cX7_seats 18 = .ok (.bipush (-2), 2) := by decide +kernel
set_option maxRecDepth 20000 in
theorem dX7_seats_20 : decode cX7_seats 20 = .ok (.ireturn, 1) := by decide +kernel
set_option maxRecDepth 20000 in
theorem dX7_seats_21 : decode cX7_seats 21 = .ok (.iconst 0, 1) := by decide +kernel
set_option maxRecDepth 20000 in
theorem dX7_seats_22 : decode cX7_seats 22 = .ok (.istore_n 3, 1) := by decide +kernel
set_option maxRecDepth 20000 in
theorem dX7_seats_23 : decode cX7_seats 23 = .ok (.iload_n 3, 1) := by decide +kernel
set_option maxRecDepth 20000 in
theorem dX7_seats_24 : decode cX7_seats 24 = .ok (.iconst 4, 1) := by decide +kernel
set_option maxRecDepth 20000 in
theorem dX7_seats_25 : decode cX7_seats 25 = .ok (.if_icmp .ge 26, 3) := by decide +kernel
set_option maxRecDepth 20000 in
theorem dX7_seats_28 : decode cX7_seats 28 = .ok (.aload_n 0, 1) := by decide +kernel
set_option maxRecDepth 20000 in
theorem dX7_seats_29 : decode cX7_seats 29 = .ok (.getfield 10, 3) := by decide +kernel
set_option maxRecDepth 20000 in
theorem dX7_seats_32 : decode cX7_seats 32 = .ok (.iload_n 3, 1) := by decide +kernel
set_option maxRecDepth 20000 in
theorem dX7_seats_33 : decode cX7_seats 33 = .ok (.iload_n 1, 1) := by decide +kernel
set_option maxRecDepth 20000 in
theorem dX7_seats_34 : decode cX7_seats 34 = .ok (.iconst (-1), 1) := by decide +kernel
set_option maxRecDepth 20000 in
theorem dX7_seats_35 : decode cX7_seats 35 = .ok (.invokevirtual 101, 3) := by decide +kernel
set_option maxRecDepth 20000 in
theorem dX7_seats_38 : decode cX7_seats 38 = .ok (.iload_n 2, 1) := by decide +kernel
set_option maxRecDepth 20000 in
theorem dX7_seats_39 : decode cX7_seats 39 = .ok (.if_icmp .le 6, 3) := by decide +kernel
set_option maxRecDepth 20000 in
theorem dX7_seats_42 : decode cX7_seats 42 = .ok (.bipush (-3), 2) := by decide +kernel
set_option maxRecDepth 20000 in
theorem dX7_seats_44 : decode cX7_seats 44 = .ok (.ireturn, 1) := by decide +kernel
set_option maxRecDepth 20000 in
theorem dX7_seats_45 : decode cX7_seats 45 = .ok (.iinc 3 1, 3) := by decide +kernel
set_option maxRecDepth 20000 in
theorem dX7_seats_48 : decode cX7_seats 48 = .ok (.goto (-25), 3) := by decide +kernel
set_option maxRecDepth 20000 in
theorem dX7_seats_51 : decode cX7_seats 51 = .ok (.aload_n 0, 1) := by decide +kernel
set_option maxRecDepth 20000 in
theorem dX7_seats_52 : decode cX7_seats 52 = .ok (.getfield 10, 3) := by decide +kernel
set_option maxRecDepth 20000 in
theorem dX7_seats_55 : decode cX7_seats 55 = .ok (.iload_n 1, 1) := by decide +kernel
set_option maxRecDepth 20000 in
theorem dX7_seats_56 : decode cX7_seats 56 = .ok (.iload_n 2, 1) := by decide +kernel
set_option maxRecDepth 20000 in
theorem dX7_seats_57 : decode cX7_seats 57 = .ok (.invokevirtual 105, 3) := by decide +kernel
set_option maxRecDepth 20000 in
theorem dX7_seats_60 : decode cX7_seats 60 = .ok (.ireturn, 1) := by decide +kernel
def f_X7_seats_23 (N : Nat) (c_board_askers : Int32) (c_board_places : Int32) (c_board_told : Nat → Int32) : Nat → Int32 → (Nat → Int32) → Int32 → Int32 → Int32 → Option (Int32 × Int32 × (Nat → Int32))
  | 0, _, _, _, _, _ => none
  | n + 1, c_board_age, c_board_seats, v1, v2, v3 =>
    (if 4 ≤ v3 then
      (f_X0_setSeats N c_board_age c_board_seats v1 v2).bind fun (r2, o3, o4) =>
      some (r2, o3, o4)
    else
      (f_X0_holders N c_board_askers c_board_told v3 v1 (-1 : Int32)).bind fun r6 =>
      (if r6 ≤ v2 then
        f_X7_seats_23 N c_board_askers c_board_places c_board_told n c_board_age c_board_seats v1 v2 (v3 + 1)
      else
        some ((-3 : Int32), c_board_age, c_board_seats)))
set_option maxHeartbeats 4000000 in
set_option maxRecDepth 100000 in
theorem g_X7_seats_23 {κ : KC} {ω : KW} {A : Nat → Prop} {ad : Nat → Nat} {u_above : Int64} {u_below : Int64} {N : Nat} {c_board_askers : Int32} {c_board_places : Int32} {c_board_told : Nat → Int32}  {res : Int32 × Int32 × (Nat → Int32)} : ∀ (n : Nat) {c_board_age : Int32} {c_board_seats : Nat → Int32} {v1 : Int32} {v2 : Int32} {v3 : Int32}, f_X7_seats_23 N c_board_askers c_board_places c_board_told n c_board_age c_board_seats v1 v2 v3 = some res → GG mu_X7_seats κ ω A (QR κ ω A ad (some (.int res.1)) (w_X7_seats c_board_askers c_board_places res.2.1 res.2.2 c_board_told u_above u_below)) ad 0 0 23 (w_X7_seats c_board_askers c_board_places c_board_age c_board_seats c_board_told u_above u_below) [some (.ref 0), some (.int v1), some (.int v2), some (.int v3)] [] := by
  intro n
  induction n with
  | zero => intro c_board_age c_board_seats v1 v2 v3 hf; exact ob_0 hf
  | succ n ih =>
    intro c_board_age c_board_seats v1 v2 v3 hf
    refine G_iload_n dX7_seats_23 rfl rfl ?_
    refine G_iconst 4 dX7_seats_24 (by decide) ?_
    refine G_icmp_ge 51 dX7_seats_25 (by decide) (fun h1 => ?_) (fun h1 => ?_)
    · replace hf := ob_t h1 hf
      refine G_aload_n dX7_seats_51 rfl rfl ?_
      refine G_get (v := .ref 1) F_X7_10 dX7_seats_52 rfl rfl ?_
      refine G_iload_n dX7_seats_55 rfl rfl ?_
      refine G_iload_n dX7_seats_56 rfl rfl ?_
      obtain ⟨⟨r2, o3, o4⟩, hc5, hf⟩ := ob hf
      refine G_callV (μ2 := mu_X0_setSeats) (As := [.int v1, .int v2]) (w2 := (w_X7_seats c_board_askers c_board_places o3 o4 c_board_told u_above u_below)) (wc := (w_X0_setSeats c_board_age c_board_seats c_board_askers c_board_places)) (wc2 := (w_X0_setSeats o3 o4 c_board_askers c_board_places)) (rest := []) (rv := [.int r2]) [1, 2] [1009, 1010, 3] [0, 3] [0, 2, 3, 1] (c_X0_setSeats hc5) cw_X0_setSeats m_X7_105 dX7_seats_57 rfl ⟨leb rfl, leb rfl⟩ ⟨rfl, rfl⟩ rfl ⟨_, rfl, rfl⟩ (Fit.mk rfl rfl rfl) rfl (leb rfl) (ROsub.nil rfl rfl) rfl ?_
      change GG _ _ _ _ _ _ _ _ _ (w_X7_seats c_board_askers c_board_places o3 o4 c_board_told u_above u_below) [some (.ref 0), some (.int v1), some (.int v2), some (.int v3)] [.int r2]
      obtain rfl := os hf
      exact G_ireturn dX7_seats_60 rfl
    · replace hf := ob_f h1 hf
      refine G_aload_n dX7_seats_28 rfl rfl ?_
      refine G_get (v := .ref 1) F_X7_10 dX7_seats_29 rfl rfl ?_
      refine G_iload_n dX7_seats_32 rfl rfl ?_
      refine G_iload_n dX7_seats_33 rfl rfl ?_
      refine G_iconst (-1 : Int32) dX7_seats_34 (by decide) ?_
      obtain ⟨r6, hc7, hf⟩ := ob hf
      refine G_callV (μ2 := mu_X0_holders) (As := [.int v3, .int v1, .int (-1 : Int32)]) (w2 := (w_X7_seats c_board_askers c_board_places c_board_age c_board_seats c_board_told u_above u_below)) (wc := (w_X0_holders c_board_askers c_board_told c_board_places c_board_age)) (wc2 := (w_X0_holders c_board_askers c_board_told c_board_places c_board_age)) (rest := []) (rv := [.int r6]) [1, 3] [2, 1009, 1010] [0, 2] [0, 2, 1, 3] (c_X0_holders hc7) cw_X0_holders m_X7_101 dX7_seats_35 rfl ⟨leb rfl, leb rfl⟩ ⟨rfl, rfl⟩ rfl ⟨_, rfl, rfl⟩ (Fit.mk rfl rfl rfl) rfl (leb rfl) (ROsub.nil rfl rfl) rfl ?_
      change GG _ _ _ _ _ _ _ _ _ (w_X7_seats c_board_askers c_board_places c_board_age c_board_seats c_board_told u_above u_below) [some (.ref 0), some (.int v1), some (.int v2), some (.int v3)] [.int r6]
      refine G_iload_n dX7_seats_38 rfl rfl ?_
      refine G_icmp_le 45 dX7_seats_39 (by decide) (fun h8 => ?_) (fun h8 => ?_)
      · replace hf := ob_t h8 hf
        refine G_iinc 1 dX7_seats_45 (by decide) rfl (ltb rfl) ?_
        change GG _ _ _ _ _ _ _ _ _ _ [some (.ref 0), some (.int v1), some (.int v2), some (.int (v3 + 1))] _
        refine G_goto 23 dX7_seats_48 (by decide) ?_
        exact ih hf
      · replace hf := ob_f h8 hf
        refine G_bipush (-3 : Int32) dX7_seats_42 (by decide) ?_
        obtain rfl := os hf
        exact G_ireturn dX7_seats_44 rfl
def f_X7_seats (N : Nat) (c_board_askers : Int32) (c_board_places : Int32) (c_board_told : Nat → Int32) (c_board_age : Int32) (c_board_seats : Nat → Int32) (a1 : Int32) (a2 : Int32) : Option (Int32 × Int32 × (Nat → Int32)) :=
  (f_X0_isPlace N c_board_places a1).bind fun r1 =>
  (if r1 = 0 then
    some ((-2 : Int32), c_board_age, c_board_seats)
  else
    (f_X7_isSeats N a2).bind fun r4 =>
    (if r4 = 0 then
      some ((-2 : Int32), c_board_age, c_board_seats)
    else
      f_X7_seats_23 N c_board_askers c_board_places c_board_told N c_board_age c_board_seats a1 a2 0))
set_option maxHeartbeats 4000000 in
set_option maxRecDepth 100000 in
theorem c_X7_seats {N : Nat} {c_board_askers : Int32} {c_board_places : Int32} {c_board_told : Nat → Int32} {c_board_age : Int32} {c_board_seats : Nat → Int32} {u_above : Int64} {u_below : Int64} {a1 : Int32} {a2 : Int32} {res : Int32 × Int32 × (Nat → Int32)} (hf : f_X7_seats N c_board_askers c_board_places c_board_told c_board_age c_board_seats a1 a2 = some res) : Con mu_X7_seats [.ref 0, .int a1, .int a2] (w_X7_seats c_board_askers c_board_places c_board_age c_board_seats c_board_told u_above u_below) (some (.int res.1)) (w_X7_seats c_board_askers c_board_places res.2.1 res.2.2 c_board_told u_above u_below) := by
  refine Con.mk (show plainName RX7 = true by decide +kernel) (leb rfl) (fun κ ω A ad => ?_)
  change GG mu_X7_seats κ ω A (QR κ ω A ad (some (.int res.1)) (w_X7_seats c_board_askers c_board_places res.2.1 res.2.2 c_board_told u_above u_below)) ad 0 0 0 (w_X7_seats c_board_askers c_board_places c_board_age c_board_seats c_board_told u_above u_below) [some (.ref 0), some (.int a1), some (.int a2), none] []
  refine G_aload_n dX7_seats_0 rfl rfl ?_
  refine G_get (v := .ref 1) F_X7_10 dX7_seats_1 rfl rfl ?_
  refine G_iload_n dX7_seats_4 rfl rfl ?_
  obtain ⟨r1, hc2, hf⟩ := ob hf
  refine G_callV (μ2 := mu_X0_isPlace) (As := [.int a1]) (w2 := (w_X7_seats c_board_askers c_board_places c_board_age c_board_seats c_board_told u_above u_below)) (wc := (w_X0_isPlace c_board_places c_board_askers c_board_age)) (wc2 := (w_X0_isPlace c_board_places c_board_askers c_board_age)) (rest := []) (rv := [.int r1]) [1] [2, 1009, 1010, 3] [0, 2, 3] [0, 3, 1, 2] (c_X0_isPlace hc2) cw_X0_isPlace m_X7_98 dX7_seats_5 rfl ⟨leb rfl, leb rfl⟩ ⟨rfl, rfl⟩ rfl ⟨_, rfl, rfl⟩ (Fit.mk rfl rfl rfl) rfl (leb rfl) (ROsub.nil rfl rfl) rfl ?_
  change GG _ _ _ _ _ _ _ _ _ (w_X7_seats c_board_askers c_board_places c_board_age c_board_seats c_board_told u_above u_below) [some (.ref 0), some (.int a1), some (.int a2), none] [.int r1]
  refine G_if_eq 18 dX7_seats_8 (by decide) (fun h3 => ?_) (fun h3 => ?_)
  · replace hf := ob_t h3 hf
    refine G_bipush (-2 : Int32) dX7_seats_18 (by decide) ?_
    obtain rfl := os hf
    exact G_ireturn dX7_seats_20 rfl
  · replace hf := ob_f h3 hf
    refine G_iload_n dX7_seats_11 rfl rfl ?_
    obtain ⟨r4, hc5, hf⟩ := ob hf
    refine G_callS (μ2 := mu_X7_isSeats) (As := [.int a2]) (w2 := (w_X7_seats c_board_askers c_board_places c_board_age c_board_seats c_board_told u_above u_below)) (wc := []) (wc2 := []) (rest := []) (rv := [.int r4]) [] [] [0, 1, 2, 3] [0, 1, 2, 3] (c_X7_isSeats hc5) cw_X7_isSeats m_X7_87 rfl dX7_seats_12 rfl ⟨leb rfl, leb rfl⟩ ⟨rfl, rfl⟩ (Fit.mk rfl rfl rfl) rfl (leb rfl) (ROsub.nil rfl rfl) rfl ?_
    change GG _ _ _ _ _ _ _ _ _ (w_X7_seats c_board_askers c_board_places c_board_age c_board_seats c_board_told u_above u_below) [some (.ref 0), some (.int a1), some (.int a2), none] [.int r4]
    refine G_if_ne 21 dX7_seats_15 (by decide) (fun h6 => ?_) (fun h6 => ?_)
    · replace hf := ob_f h6 hf
      refine G_iconst 0 dX7_seats_21 (by decide) ?_
      refine G_istore_n dX7_seats_22 rfl (ltb rfl) ?_
      change GG _ _ _ _ _ _ _ _ _ _ [some (.ref 0), some (.int a1), some (.int a2), some (.int 0)] _
      exact g_X7_seats_23 N hf
    · replace hf := ob_t h6 hf
      refine G_bipush (-2 : Int32) dX7_seats_18 (by decide) ?_
      obtain rfl := os hf
      exact G_ireturn dX7_seats_20 rfl
set_option maxRecDepth 20000 in
theorem dX7_wish_0 : decode cX7_wish 0 = .ok (.aload_n 0, 1) := by decide +kernel
set_option maxRecDepth 20000 in
theorem dX7_wish_1 : decode cX7_wish 1 = .ok (.getfield 10, 3) := by decide +kernel
set_option maxRecDepth 20000 in
theorem dX7_wish_4 : decode cX7_wish 4 = .ok (.iload_n 1, 1) := by decide +kernel
set_option maxRecDepth 20000 in
theorem dX7_wish_5 : decode cX7_wish 5 = .ok (.invokevirtual 109, 3) := by decide +kernel
set_option maxRecDepth 20000 in
theorem dX7_wish_8 : decode cX7_wish 8 = .ok (.ifCond .eq 24, 3) := by decide +kernel
set_option maxRecDepth 20000 in
theorem dX7_wish_11 : decode cX7_wish 11 = .ok (.aload_n 0, 1) := by decide +kernel
set_option maxRecDepth 20000 in
theorem dX7_wish_12 : decode cX7_wish 12 = .ok (.getfield 10, 3) := by decide +kernel
set_option maxRecDepth 20000 in
theorem dX7_wish_15 : decode cX7_wish 15 = .ok (.iload_n 2, 1) := by decide +kernel
set_option maxRecDepth 20000 in
theorem dX7_wish_16 : decode cX7_wish 16 = .ok (.invokevirtual 98, 3) := by decide +kernel
set_option maxRecDepth 20000 in
theorem dX7_wish_19 : decode cX7_wish 19 = .ok (.ifCond .eq 13, 3) := by decide +kernel
set_option maxRecDepth 20000 in
theorem dX7_wish_22 : decode cX7_wish 22 = .ok (.iload_n 3, 1) := by decide +kernel
set_option maxRecDepth 20000 in
theorem dX7_wish_23 : decode cX7_wish 23 = .ok (.ifCond .lt 9, 3) := by decide +kernel
set_option maxRecDepth 20000 in
theorem dX7_wish_26 : decode cX7_wish 26 = .ok (.iload_n 3, 1) := by decide +kernel
set_option maxRecDepth 20000 in
theorem dX7_wish_27 : decode cX7_wish 27 = .ok (.bipush 6, 2) := by decide +kernel
set_option maxRecDepth 20000 in
theorem dX7_wish_29 : decode cX7_wish 29 = .ok (.if_icmp .le 6, 3) := by decide +kernel
set_option maxRecDepth 20000 in
theorem dX7_wish_32 : decode cX7_wish 32 = .ok (.bipush (-2), 2) := by decide +kernel
set_option maxRecDepth 20000 in
theorem dX7_wish_34 : decode cX7_wish 34 = .ok (.ireturn, 1) := by decide +kernel
set_option maxRecDepth 20000 in
theorem dX7_wish_35 : decode cX7_wish 35 = .ok (.aload_n 0, 1) := by decide +kernel
set_option maxRecDepth 20000 in
theorem dX7_wish_36 : decode cX7_wish 36 = .ok (.getfield 10, 3) := by decide +kernel
set_option maxRecDepth 20000 in
theorem dX7_wish_39 : decode cX7_wish 39 = .ok (.iload_n 1, 1) := by decide +kernel
set_option maxRecDepth 20000 in
theorem dX7_wish_40 : decode cX7_wish 40 = .ok (.iload_n 2, 1) := by decide +kernel
set_option maxRecDepth 20000 in
theorem dX7_wish_41 : decode cX7_wish 41 = .ok (.iload_n 3, 1) := by decide +kernel
set_option maxRecDepth 20000 in
theorem dX7_wish_42 : decode cX7_wish 42 = .ok (.invokevirtual 112, 3) := by decide +kernel
set_option maxRecDepth 20000 in
theorem dX7_wish_45 : decode cX7_wish 45 = .ok (.ireturn, 1) := by decide +kernel
def f_X7_wish (N : Nat) (c_board_askers : Int32) (c_board_places : Int32) (c_board_age : Int32) (c_board_likes : Nat → Int32) (c_board_told : Nat → Int32) (c_board_wishes : Nat → Int32) (a1 : Int32) (a2 : Int32) (a3 : Int32) : Option (Int32 × Int32 × (Nat → Int32) × (Nat → Int32) × (Nat → Int32)) :=
  (f_X0_isAsker N c_board_askers a1).bind fun r1 =>
  (if r1 = 0 then
    some ((-2 : Int32), c_board_age, c_board_likes, c_board_told, c_board_wishes)
  else
    (f_X0_isPlace N c_board_places a2).bind fun r4 =>
    (if r4 = 0 then
      some ((-2 : Int32), c_board_age, c_board_likes, c_board_told, c_board_wishes)
    else
      (if a3 < 0 then
        some ((-2 : Int32), c_board_age, c_board_likes, c_board_told, c_board_wishes)
      else
        (if a3 ≤ 6 then
          (f_X0_setWish N c_board_places c_board_age c_board_likes c_board_told c_board_wishes a1 a2 a3).bind fun (r9, o10, o11, o12, o13) =>
          some (r9, o10, o11, o12, o13)
        else
          some ((-2 : Int32), c_board_age, c_board_likes, c_board_told, c_board_wishes)))))
set_option maxHeartbeats 4000000 in
set_option maxRecDepth 100000 in
theorem c_X7_wish {N : Nat} {c_board_askers : Int32} {c_board_places : Int32} {c_board_age : Int32} {c_board_likes : Nat → Int32} {c_board_told : Nat → Int32} {c_board_wishes : Nat → Int32} {u_above : Int64} {u_below : Int64} {a1 : Int32} {a2 : Int32} {a3 : Int32} {res : Int32 × Int32 × (Nat → Int32) × (Nat → Int32) × (Nat → Int32)} (hf : f_X7_wish N c_board_askers c_board_places c_board_age c_board_likes c_board_told c_board_wishes a1 a2 a3 = some res) : Con mu_X7_wish [.ref 0, .int a1, .int a2, .int a3] (w_X7_wish c_board_askers c_board_places c_board_age c_board_likes c_board_told c_board_wishes u_above u_below) (some (.int res.1)) (w_X7_wish c_board_askers c_board_places res.2.1 res.2.2.1 res.2.2.2.1 res.2.2.2.2 u_above u_below) := by
  refine Con.mk (show plainName RX7 = true by decide +kernel) (leb rfl) (fun κ ω A ad => ?_)
  change GG mu_X7_wish κ ω A (QR κ ω A ad (some (.int res.1)) (w_X7_wish c_board_askers c_board_places res.2.1 res.2.2.1 res.2.2.2.1 res.2.2.2.2 u_above u_below)) ad 0 0 0 (w_X7_wish c_board_askers c_board_places c_board_age c_board_likes c_board_told c_board_wishes u_above u_below) [some (.ref 0), some (.int a1), some (.int a2), some (.int a3)] []
  refine G_aload_n dX7_wish_0 rfl rfl ?_
  refine G_get (v := .ref 1) F_X7_10 dX7_wish_1 rfl rfl ?_
  refine G_iload_n dX7_wish_4 rfl rfl ?_
  obtain ⟨r1, hc2, hf⟩ := ob hf
  refine G_callV (μ2 := mu_X0_isAsker) (As := [.int a1]) (w2 := (w_X7_wish c_board_askers c_board_places c_board_age c_board_likes c_board_told c_board_wishes u_above u_below)) (wc := (w_X0_isAsker c_board_askers c_board_places c_board_age)) (wc2 := (w_X0_isAsker c_board_askers c_board_places c_board_age)) (rest := []) (rv := [.int r1]) [1] [1009, 4, 2, 3] [0, 2, 3, 4] [0, 4, 1, 2, 3] (c_X0_isAsker hc2) cw_X0_isAsker m_X7_109 dX7_wish_5 rfl ⟨leb rfl, leb rfl⟩ ⟨rfl, rfl⟩ rfl ⟨_, rfl, rfl⟩ (Fit.mk rfl rfl rfl) rfl (leb rfl) (ROsub.nil rfl rfl) rfl ?_
  change GG _ _ _ _ _ _ _ _ _ (w_X7_wish c_board_askers c_board_places c_board_age c_board_likes c_board_told c_board_wishes u_above u_below) [some (.ref 0), some (.int a1), some (.int a2), some (.int a3)] [.int r1]
  refine G_if_eq 32 dX7_wish_8 (by decide) (fun h3 => ?_) (fun h3 => ?_)
  · replace hf := ob_t h3 hf
    refine G_bipush (-2 : Int32) dX7_wish_32 (by decide) ?_
    obtain rfl := os hf
    exact G_ireturn dX7_wish_34 rfl
  · replace hf := ob_f h3 hf
    refine G_aload_n dX7_wish_11 rfl rfl ?_
    refine G_get (v := .ref 1) F_X7_10 dX7_wish_12 rfl rfl ?_
    refine G_iload_n dX7_wish_15 rfl rfl ?_
    obtain ⟨r4, hc5, hf⟩ := ob hf
    refine G_callV (μ2 := mu_X0_isPlace) (As := [.int a2]) (w2 := (w_X7_wish c_board_askers c_board_places c_board_age c_board_likes c_board_told c_board_wishes u_above u_below)) (wc := (w_X0_isPlace c_board_places c_board_askers c_board_age)) (wc2 := (w_X0_isPlace c_board_places c_board_askers c_board_age)) (rest := []) (rv := [.int r4]) [1] [1009, 4, 2, 3] [0, 2, 3, 4] [0, 4, 1, 2, 3] (c_X0_isPlace hc5) cw_X0_isPlace m_X7_98 dX7_wish_16 rfl ⟨leb rfl, leb rfl⟩ ⟨rfl, rfl⟩ rfl ⟨_, rfl, rfl⟩ (Fit.mk rfl rfl rfl) rfl (leb rfl) (ROsub.nil rfl rfl) rfl ?_
    change GG _ _ _ _ _ _ _ _ _ (w_X7_wish c_board_askers c_board_places c_board_age c_board_likes c_board_told c_board_wishes u_above u_below) [some (.ref 0), some (.int a1), some (.int a2), some (.int a3)] [.int r4]
    refine G_if_eq 32 dX7_wish_19 (by decide) (fun h6 => ?_) (fun h6 => ?_)
    · replace hf := ob_t h6 hf
      refine G_bipush (-2 : Int32) dX7_wish_32 (by decide) ?_
      obtain rfl := os hf
      exact G_ireturn dX7_wish_34 rfl
    · replace hf := ob_f h6 hf
      refine G_iload_n dX7_wish_22 rfl rfl ?_
      refine G_if_lt 32 dX7_wish_23 (by decide) (fun h7 => ?_) (fun h7 => ?_)
      · replace hf := ob_t h7 hf
        refine G_bipush (-2 : Int32) dX7_wish_32 (by decide) ?_
        obtain rfl := os hf
        exact G_ireturn dX7_wish_34 rfl
      · replace hf := ob_f h7 hf
        refine G_iload_n dX7_wish_26 rfl rfl ?_
        refine G_bipush 6 dX7_wish_27 (by decide) ?_
        refine G_icmp_le 35 dX7_wish_29 (by decide) (fun h8 => ?_) (fun h8 => ?_)
        · replace hf := ob_t h8 hf
          refine G_aload_n dX7_wish_35 rfl rfl ?_
          refine G_get (v := .ref 1) F_X7_10 dX7_wish_36 rfl rfl ?_
          refine G_iload_n dX7_wish_39 rfl rfl ?_
          refine G_iload_n dX7_wish_40 rfl rfl ?_
          refine G_iload_n dX7_wish_41 rfl rfl ?_
          obtain ⟨⟨r9, o10, o11, o12, o13⟩, hc14, hf⟩ := ob hf
          refine G_callV (μ2 := mu_X0_setWish) (As := [.int a1, .int a2, .int a3]) (w2 := (w_X7_wish c_board_askers c_board_places o10 o11 o12 o13 u_above u_below)) (wc := (w_X0_setWish c_board_places c_board_age c_board_likes c_board_told c_board_wishes c_board_askers)) (wc2 := (w_X0_setWish c_board_places o10 o11 o12 o13 c_board_askers)) (rest := []) (rv := [.int r9]) [1, 2, 3, 4] [1009] [0] [0, 1, 2, 3, 4] (c_X0_setWish hc14) cw_X0_setWish m_X7_112 dX7_wish_42 rfl ⟨leb rfl, leb rfl⟩ ⟨rfl, rfl⟩ rfl ⟨_, rfl, rfl⟩ (Fit.mk rfl rfl rfl) rfl (leb rfl) (ROsub.nil rfl rfl) rfl ?_
          change GG _ _ _ _ _ _ _ _ _ (w_X7_wish c_board_askers c_board_places o10 o11 o12 o13 u_above u_below) [some (.ref 0), some (.int a1), some (.int a2), some (.int a3)] [.int r9]
          obtain rfl := os hf
          exact G_ireturn dX7_wish_45 rfl
        · replace hf := ob_f h8 hf
          refine G_bipush (-2 : Int32) dX7_wish_32 (by decide) ?_
          obtain rfl := os hf
          exact G_ireturn dX7_wish_34 rfl
set_option maxRecDepth 20000 in
theorem dX7_isPlaceOrNone_0 : decode cX7_isPlaceOrNone 0 = .ok (.iload_n 1, 1) := by decide +kernel
set_option maxRecDepth 20000 in
theorem dX7_isPlaceOrNone_1 : decode cX7_isPlaceOrNone 1 = .ok (.iconst (-1), 1) := by decide +kernel
set_option maxRecDepth 20000 in
theorem dX7_isPlaceOrNone_2 : decode cX7_isPlaceOrNone 2 = .ok (.if_icmp .eq 14, 3) := by decide +kernel
set_option maxRecDepth 20000 in
theorem dX7_isPlaceOrNone_5 : decode cX7_isPlaceOrNone 5 = .ok (.aload_n 0, 1) := by decide +kernel
set_option maxRecDepth 20000 in
theorem dX7_isPlaceOrNone_6 : decode cX7_isPlaceOrNone 6 = .ok (.getfield 10, 3) := by decide +kernel
set_option maxRecDepth 20000 in
theorem dX7_isPlaceOrNone_9 : decode cX7_isPlaceOrNone 9 = .ok (.iload_n 1, 1) := by decide +kernel
set_option maxRecDepth 20000 in
theorem dX7_isPlaceOrNone_10 : decode cX7_isPlaceOrNone 10 = .ok (.invokevirtual 98, 3) := by decide +kernel
set_option maxRecDepth 20000 in
theorem dX7_isPlaceOrNone_13 : decode cX7_isPlaceOrNone 13 = .ok (.ifCond .eq 7, 3) := by decide +kernel
set_option maxRecDepth 20000 in
theorem dX7_isPlaceOrNone_16 : decode cX7_isPlaceOrNone 16 = .ok (.iconst 1, 1) := by decide +kernel
set_option maxRecDepth 20000 in
theorem dX7_isPlaceOrNone_17 : decode cX7_isPlaceOrNone 17 = .ok (.goto 4, 3) := by decide +kernel
set_option maxRecDepth 20000 in
theorem dX7_isPlaceOrNone_20 : decode cX7_isPlaceOrNone 20 = .ok (.iconst 0, 1) := by decide +kernel
set_option maxRecDepth 20000 in
theorem dX7_isPlaceOrNone_21 : decode cX7_isPlaceOrNone 21 = .ok (.ireturn, 1) := by decide +kernel
def f_X7_isPlaceOrNone (N : Nat) (c_board_places : Int32) (a1 : Int32) : Option (Int32) :=
  (if a1 = (-1 : Int32) then
    some 1
  else
    (f_X0_isPlace N c_board_places a1).bind fun r2 =>
    (if r2 = 0 then
      some 0
    else
      some 1))
set_option maxHeartbeats 4000000 in
set_option maxRecDepth 100000 in
theorem c_X7_isPlaceOrNone {N : Nat} {c_board_places : Int32}  {u_above : Int64} {u_below : Int64} {u_board_askers : Int32} {u_board_age : Int32} {a1 : Int32} {res : Int32} (hf : f_X7_isPlaceOrNone N c_board_places a1 = some res) : Con mu_X7_isPlaceOrNone [.ref 0, .int a1] (w_X7_isPlaceOrNone c_board_places u_above u_below u_board_askers u_board_age) (some (.int res)) (w_X7_isPlaceOrNone c_board_places u_above u_below u_board_askers u_board_age) := by
  refine Con.mk (show plainName RX7 = true by decide +kernel) (leb rfl) (fun κ ω A ad => ?_)
  change GG mu_X7_isPlaceOrNone κ ω A (QR κ ω A ad (some (.int res)) (w_X7_isPlaceOrNone c_board_places u_above u_below u_board_askers u_board_age)) ad 0 0 0 (w_X7_isPlaceOrNone c_board_places u_above u_below u_board_askers u_board_age) [some (.ref 0), some (.int a1)] []
  refine G_iload_n dX7_isPlaceOrNone_0 rfl rfl ?_
  refine G_iconst (-1 : Int32) dX7_isPlaceOrNone_1 (by decide) ?_
  refine G_icmp_eq 16 dX7_isPlaceOrNone_2 (by decide) (fun h1 => ?_) (fun h1 => ?_)
  · replace hf := ob_t h1 hf
    refine G_iconst 1 dX7_isPlaceOrNone_16 (by decide) ?_
    refine G_goto 21 dX7_isPlaceOrNone_17 (by decide) ?_
    obtain rfl := os hf
    exact G_zreturn dX7_isPlaceOrNone_21 rfl z_1
  · replace hf := ob_f h1 hf
    refine G_aload_n dX7_isPlaceOrNone_5 rfl rfl ?_
    refine G_get (v := .ref 1) F_X7_10 dX7_isPlaceOrNone_6 rfl rfl ?_
    refine G_iload_n dX7_isPlaceOrNone_9 rfl rfl ?_
    obtain ⟨r2, hc3, hf⟩ := ob hf
    refine G_callV (μ2 := mu_X0_isPlace) (As := [.int a1]) (w2 := (w_X7_isPlaceOrNone c_board_places u_above u_below u_board_askers u_board_age)) (wc := (w_X0_isPlace c_board_places u_board_askers u_board_age)) (wc2 := (w_X0_isPlace c_board_places u_board_askers u_board_age)) (rest := []) (rv := [.int r2]) [1] [1009, 1010, 1011, 1012] [0] [0, 1] (c_X0_isPlace hc3) cw_X0_isPlace m_X7_98 dX7_isPlaceOrNone_10 rfl ⟨leb rfl, leb rfl⟩ ⟨rfl, rfl⟩ rfl ⟨_, rfl, rfl⟩ (Fit.mk rfl rfl rfl) rfl (leb rfl) (ROsub.nil rfl rfl) rfl ?_
    change GG _ _ _ _ _ _ _ _ _ (w_X7_isPlaceOrNone c_board_places u_above u_below u_board_askers u_board_age) [some (.ref 0), some (.int a1)] [.int r2]
    refine G_if_eq 20 dX7_isPlaceOrNone_13 (by decide) (fun h4 => ?_) (fun h4 => ?_)
    · replace hf := ob_t h4 hf
      refine G_iconst 0 dX7_isPlaceOrNone_20 (by decide) ?_
      obtain rfl := os hf
      exact G_zreturn dX7_isPlaceOrNone_21 rfl z_0
    · replace hf := ob_f h4 hf
      refine G_iconst 1 dX7_isPlaceOrNone_16 (by decide) ?_
      refine G_goto 21 dX7_isPlaceOrNone_17 (by decide) ?_
      obtain rfl := os hf
      exact G_zreturn dX7_isPlaceOrNone_21 rfl z_1
set_option maxRecDepth 20000 in
theorem dX7_worth_0 : decode cX7_worth 0 = .ok (.aload_n 0, 1) := by decide +kernel
set_option maxRecDepth 20000 in
theorem dX7_worth_1 : decode cX7_worth 1 = .ok (.getfield 10, 3) := by decide +kernel
set_option maxRecDepth 20000 in
theorem dX7_worth_4 : decode cX7_worth 4 = .ok (.iload_n 1, 1) := by decide +kernel
set_option maxRecDepth 20000 in
theorem dX7_worth_5 : decode cX7_worth 5 = .ok (.invokevirtual 109, 3) := by decide +kernel
set_option maxRecDepth 20000 in
theorem dX7_worth_8 : decode cX7_worth 8 = .ok (.ifCond .eq 11, 3) := by decide +kernel
set_option maxRecDepth 20000 in
theorem dX7_worth_11 : decode cX7_worth 11 = .ok (.aload_n 0, 1) := by decide +kernel
set_option maxRecDepth 20000 in
theorem dX7_worth_12 : decode cX7_worth 12 = .ok (.iload_n 2, 1) := by decide +kernel
set_option maxRecDepth 20000 in
theorem dX7_worth_13 : decode cX7_worth 13 = .ok (.invokevirtual 115, 3) := by decide +kernel
set_option maxRecDepth 20000 in
theorem dX7_worth_16 : decode cX7_worth 16 = .ok (.ifCond .ne 6, 3) := by decide +kernel
set_option maxRecDepth 20000 in
theorem dX7_worth_19 : decode cX7_worth 19 = .ok (.bipush (-2), 2) := by decide +kernel
set_option maxRecDepth 20000 in
theorem dX7_worth_21 : decode cX7_worth 21 = .ok (.ireturn, 1) := by decide +kernel
set_option maxRecDepth 20000 in
theorem dX7_worth_22 : decode cX7_worth 22 = .ok (.aload_n 0, 1) := by decide +kernel
set_option maxRecDepth 20000 in
theorem dX7_worth_23 : decode cX7_worth 23 = .ok (.getfield 10, 3) := by decide +kernel
set_option maxRecDepth 20000 in
theorem dX7_worth_26 : decode cX7_worth 26 = .ok (.iload_n 1, 1) := by decide +kernel
set_option maxRecDepth 20000 in
theorem dX7_worth_27 : decode cX7_worth 27 = .ok (.iload_n 2, 1) := by decide +kernel
set_option maxRecDepth 20000 in
theorem dX7_worth_28 : decode cX7_worth 28 = .ok (.invokevirtual 118, 3) := by decide +kernel
set_option maxRecDepth 20000 in
theorem dX7_worth_31 : decode cX7_worth 31 = .ok (.ireturn, 1) := by decide +kernel
def f_X7_worth (N : Nat) (c_board_askers : Int32) (c_board_places : Int32) (c_board_wishes : Nat → Int32) (a1 : Int32) (a2 : Int32) : Option (Int32) :=
  (f_X0_isAsker N c_board_askers a1).bind fun r1 =>
  (if r1 = 0 then
    some (-2 : Int32)
  else
    (f_X7_isPlaceOrNone N c_board_places a2).bind fun r4 =>
    (if r4 = 0 then
      some (-2 : Int32)
    else
      (f_X0_worthOf N c_board_wishes a1 a2).bind fun r7 =>
      some r7))
set_option maxHeartbeats 4000000 in
set_option maxRecDepth 100000 in
theorem c_X7_worth {N : Nat} {c_board_askers : Int32} {c_board_places : Int32} {c_board_wishes : Nat → Int32}  {u_above : Int64} {u_below : Int64} {u_board_age : Int32} {a1 : Int32} {a2 : Int32} {res : Int32} (hf : f_X7_worth N c_board_askers c_board_places c_board_wishes a1 a2 = some res) : Con mu_X7_worth [.ref 0, .int a1, .int a2] (w_X7_worth c_board_askers c_board_places c_board_wishes u_above u_below u_board_age) (some (.int res)) (w_X7_worth c_board_askers c_board_places c_board_wishes u_above u_below u_board_age) := by
  refine Con.mk (show plainName RX7 = true by decide +kernel) (leb rfl) (fun κ ω A ad => ?_)
  change GG mu_X7_worth κ ω A (QR κ ω A ad (some (.int res)) (w_X7_worth c_board_askers c_board_places c_board_wishes u_above u_below u_board_age)) ad 0 0 0 (w_X7_worth c_board_askers c_board_places c_board_wishes u_above u_below u_board_age) [some (.ref 0), some (.int a1), some (.int a2)] []
  refine G_aload_n dX7_worth_0 rfl rfl ?_
  refine G_get (v := .ref 1) F_X7_10 dX7_worth_1 rfl rfl ?_
  refine G_iload_n dX7_worth_4 rfl rfl ?_
  obtain ⟨r1, hc2, hf⟩ := ob hf
  refine G_callV (μ2 := mu_X0_isAsker) (As := [.int a1]) (w2 := (w_X7_worth c_board_askers c_board_places c_board_wishes u_above u_below u_board_age)) (wc := (w_X0_isAsker c_board_askers c_board_places u_board_age)) (wc2 := (w_X0_isAsker c_board_askers c_board_places u_board_age)) (rest := []) (rv := [.int r1]) [1] [1009, 2, 1010, 1011] [0, 2] [0, 2, 1] (c_X0_isAsker hc2) cw_X0_isAsker m_X7_109 dX7_worth_5 rfl ⟨leb rfl, leb rfl⟩ ⟨rfl, rfl⟩ rfl ⟨_, rfl, rfl⟩ (Fit.mk rfl rfl rfl) rfl (leb rfl) (ROsub.nil rfl rfl) rfl ?_
  change GG _ _ _ _ _ _ _ _ _ (w_X7_worth c_board_askers c_board_places c_board_wishes u_above u_below u_board_age) [some (.ref 0), some (.int a1), some (.int a2)] [.int r1]
  refine G_if_eq 19 dX7_worth_8 (by decide) (fun h3 => ?_) (fun h3 => ?_)
  · replace hf := ob_t h3 hf
    refine G_bipush (-2 : Int32) dX7_worth_19 (by decide) ?_
    obtain rfl := os hf
    exact G_ireturn dX7_worth_21 rfl
  · replace hf := ob_f h3 hf
    refine G_aload_n dX7_worth_11 rfl rfl ?_
    refine G_iload_n dX7_worth_12 rfl rfl ?_
    obtain ⟨r4, hc5, hf⟩ := ob hf
    refine G_callV (μ2 := mu_X7_isPlaceOrNone) (As := [.int a2]) (w2 := (w_X7_worth c_board_askers c_board_places c_board_wishes u_above u_below u_board_age)) (wc := (w_X7_isPlaceOrNone c_board_places u_above u_below c_board_askers u_board_age)) (wc2 := (w_X7_isPlaceOrNone c_board_places u_above u_below c_board_askers u_board_age)) (rest := []) (rv := [.int r4]) [0, 1] [1000, 1001, 1002, 1003, 1004, 1005, 1006, 1007, 1008, 1009, 2, 1010, 1011] [2] [1, 2, 0] (c_X7_isPlaceOrNone hc5) cw_X7_isPlaceOrNone m_X7_115 dX7_worth_13 rfl ⟨leb rfl, leb rfl⟩ ⟨rfl, rfl⟩ rfl ⟨_, rfl, rfl⟩ (Fit.mk rfl rfl rfl) rfl (leb rfl) (ROsub.nil rfl rfl) rfl ?_
    change GG _ _ _ _ _ _ _ _ _ (w_X7_worth c_board_askers c_board_places c_board_wishes u_above u_below u_board_age) [some (.ref 0), some (.int a1), some (.int a2)] [.int r4]
    refine G_if_ne 22 dX7_worth_16 (by decide) (fun h6 => ?_) (fun h6 => ?_)
    · replace hf := ob_f h6 hf
      refine G_aload_n dX7_worth_22 rfl rfl ?_
      refine G_get (v := .ref 1) F_X7_10 dX7_worth_23 rfl rfl ?_
      refine G_iload_n dX7_worth_26 rfl rfl ?_
      refine G_iload_n dX7_worth_27 rfl rfl ?_
      obtain ⟨r7, hc8, hf⟩ := ob hf
      refine G_callV (μ2 := mu_X0_worthOf) (As := [.int a1, .int a2]) (w2 := (w_X7_worth c_board_askers c_board_places c_board_wishes u_above u_below u_board_age)) (wc := (w_X0_worthOf c_board_wishes c_board_askers c_board_places u_board_age)) (wc2 := (w_X0_worthOf c_board_wishes c_board_askers c_board_places u_board_age)) (rest := []) (rv := [.int r7]) [1, 2] [1009, 1010, 1011] [0] [0, 1, 2] (c_X0_worthOf hc8) cw_X0_worthOf m_X7_118 dX7_worth_28 rfl ⟨leb rfl, leb rfl⟩ ⟨rfl, rfl⟩ rfl ⟨_, rfl, rfl⟩ (Fit.mk rfl rfl rfl) rfl (leb rfl) (ROsub.nil rfl rfl) rfl ?_
      change GG _ _ _ _ _ _ _ _ _ (w_X7_worth c_board_askers c_board_places c_board_wishes u_above u_below u_board_age) [some (.ref 0), some (.int a1), some (.int a2)] [.int r7]
      obtain rfl := os hf
      exact G_ireturn dX7_worth_31 rfl
    · replace hf := ob_t h6 hf
      refine G_bipush (-2 : Int32) dX7_worth_19 (by decide) ?_
      obtain rfl := os hf
      exact G_ireturn dX7_worth_21 rfl
set_option maxRecDepth 20000 in
theorem dX7_solveAll_0 : decode cX7_solveAll 0 = .ok (.iconst 0, 1) := by decide +kernel
set_option maxRecDepth 20000 in
theorem dX7_solveAll_1 : decode cX7_solveAll 1 = .ok (.istore_n 1, 1) := by decide +kernel
set_option maxRecDepth 20000 in
theorem dX7_solveAll_2 : decode cX7_solveAll 2 = .ok (.iload_n 1, 1) := by decide +kernel
set_option maxRecDepth 20000 in
theorem dX7_solveAll_3 : decode cX7_solveAll 3 = .ok (.aload_n 0, 1) := by decide +kernel
set_option maxRecDepth 20000 in
theorem dX7_solveAll_4 : decode cX7_solveAll 4 = .ok (.getfield 10, 3) := by decide +kernel
set_option maxRecDepth 20000 in
theorem dX7_solveAll_7 : decode cX7_solveAll 7 = .ok (.getfield 79, 3) := by decide +kernel
set_option maxRecDepth 20000 in
theorem dX7_solveAll_10 : decode cX7_solveAll 10 = .ok (.if_icmp .ge 55, 3) := by decide +kernel
set_option maxRecDepth 20000 in
theorem dX7_solveAll_13 : decode cX7_solveAll 13 = .ok (.iconst (-1), 1) := by decide +kernel
set_option maxRecDepth 20000 in
theorem dX7_solveAll_14 : decode cX7_solveAll 14 = .ok (.istore_n 2, 1) := by decide +kernel
set_option maxRecDepth 20000 in
theorem dX7_solveAll_15 : decode cX7_solveAll 15 = .ok (.iload_n 2, 1) := by decide +kernel
set_option maxRecDepth 20000 in
theorem dX7_solveAll_16 : decode cX7_solveAll 16 = .ok (.aload_n 0, 1) := by decide +kernel
set_option maxRecDepth 20000 in
theorem dX7_solveAll_17 : decode cX7_solveAll 17 = .ok (.getfield 10, 3) := by decide +kernel
set_option maxRecDepth 20000 in
theorem dX7_solveAll_20 : decode cX7_solveAll 20 = .ok (.getfield 91, 3) := by decide +kernel
set_option maxRecDepth 20000 in
theorem dX7_solveAll_23 : decode cX7_solveAll 23 = .ok (.if_icmp .ge 36, 3) := by decide +kernel
set_option maxRecDepth 20000 in
theorem dX7_solveAll_26 : decode cX7_solveAll 26 = .ok (.aload_n 0, 1) := by decide +kernel
set_option maxRecDepth 20000 in
theorem dX7_solveAll_27 : decode cX7_solveAll 27 = .ok (.getfield 21, 3) := by decide +kernel
set_option maxRecDepth 20000 in
theorem dX7_solveAll_30 : decode cX7_solveAll 30 = .ok (.iload_n 1, 1) := by decide +kernel
set_option maxRecDepth 20000 in
theorem dX7_solveAll_31 : decode cX7_solveAll 31 = .ok (.iload_n 2, 1) := by decide +kernel
set_option maxRecDepth 20000 in
theorem dX7_solveAll_32 : decode cX7_solveAll 32 = .ok (.aload_n 0, 1) := by decide +kernel
set_option maxRecDepth 20000 in
theorem dX7_solveAll_33 : decode cX7_solveAll 33 = .ok (.getfield 10, 3) := by decide +kernel
set_option maxRecDepth 20000 in
theorem dX7_solveAll_36 : decode cX7_solveAll 36 = .ok (.iload_n 1, 1) := by decide +kernel
set_option maxRecDepth 20000 in
theorem dX7_solveAll_37 : decode cX7_solveAll 37 = .ok (.iload_n 2, 1) := by decide +kernel
set_option maxRecDepth 20000 in
theorem dX7_solveAll_38 : decode cX7_solveAll 38 = .ok (.invokevirtual 292, 3) := by decide +kernel
set_option maxRecDepth 20000 in
theorem dX7_solveAll_41 : decode cX7_solveAll 41 = .ok (.ifCond .eq 7, 3) := by decide +kernel
set_option maxRecDepth 20000 in
theorem dX7_solveAll_44 : decode cX7_solveAll 44 = .ok (.iconst 0, 1) := by decide +kernel
set_option maxRecDepth 20000 in
theorem dX7_solveAll_45 : decode cX7_solveAll 45 = .ok (.goto 5, 3) := by decide +kernel
set_option maxRecDepth 20000 in
theorem dX7_solveAll_48 : decode cX7_solveAll 48 = .ok (.ldc 193, 2) := by decide +kernel
set_option maxRecDepth 20000 in
theorem dX7_solveAll_50 : decode cX7_solveAll 50 = .ok (.invokevirtual 296, 3) := by decide +kernel
set_option maxRecDepth 20000 in
theorem dX7_solveAll_53 : decode cX7_solveAll 53 = .ok (.iinc 2 1, 3) := by decide +kernel
set_option maxRecDepth 20000 in
theorem dX7_solveAll_56 : decode cX7_solveAll 56 = .ok (.goto (-41), 3) := by decide +kernel
set_option maxRecDepth 20000 in
theorem dX7_solveAll_59 : decode cX7_solveAll 59 = .ok (.iinc 1 1, 3) := by decide +kernel
set_option maxRecDepth 20000 in
theorem dX7_solveAll_62 : decode cX7_solveAll 62 = .ok (.goto (-60), 3) := by decide +kernel
set_option maxRecDepth 20000 in
theorem dX7_solveAll_65 : decode cX7_solveAll 65 = .ok (.aload_n 0, 1) := by decide +kernel
set_option maxRecDepth 20000 in
theorem dX7_solveAll_66 : decode cX7_solveAll 66 = .ok (.getfield 21, 3) := by decide +kernel
set_option maxRecDepth 20000 in
theorem dX7_solveAll_69 : decode cX7_solveAll 69 = .ok (.invokevirtual 201, 3) := by decide +kernel
set_option maxRecDepth 20000 in
theorem dX7_solveAll_72 : decode cX7_solveAll 72 = .ok (.return_, 1) := by decide +kernel
def f_X7_solveAll_50 (N : Nat) (c_board_askers : Int32) (c_board_places : Int32) (c_board_seats : Nat → Int32) (c_board_wishes : Nat → Int32) (k15 : Int32 → Int32 → Int32 → Int32 → (Nat → Int32) → (Nat → Int32) → (Nat → Int32) → (Nat → Int32) → (Nat → Int32) → (Nat → Int32) → (Nat → Int32) → (Nat → Int32) → (Nat → Int32) → (Nat → Int32) → (Nat → Int32) → Int32 → Int32 → Option (Int32 × Int32 × Int32 × Int32 × (Nat → Int32) × (Nat → Int32) × (Nat → Int32) × (Nat → Int32) × (Nat → Int32) × (Nat → Int32) × (Nat → Int32) × (Nat → Int32) × (Nat → Int32) × (Nat → Int32) × (Nat → Int32))) (c_all_askers : Int32) (c_all_places : Int32) (c_all_seatBits : Int32) (c_all_entries : Int32) (c_all_best : Nat → Int32) (c_all_clipAll : Nat → Int32) (c_all_clipToOne : Nat → Int32) (c_all_clipToTwo : Nat → Int32) (c_all_firstOf : Nat → Int32) (c_all_gains : Nat → Int32) (c_all_left : Nat → Int32) (c_all_next : Nat → Int32) (c_all_slots : Nat → Int32) (c_all_solvedGains : Nat → Int32) (c_all_ways : Nat → Int32) (v1 : Int32) (v2 : Int32) (s1 : Int32) (s2 : Int32) (s3 : Int32) : Option (Int32 × Int32 × Int32 × Int32 × (Nat → Int32) × (Nat → Int32) × (Nat → Int32) × (Nat → Int32) × (Nat → Int32) × (Nat → Int32) × (Nat → Int32) × (Nat → Int32) × (Nat → Int32) × (Nat → Int32) × (Nat → Int32)) :=
    (f_X4_setGain N c_all_gains s1 s2 s3).bind fun o1 =>
    k15 c_all_askers c_all_places c_all_seatBits c_all_entries c_all_best c_all_clipAll c_all_clipToOne c_all_clipToTwo c_all_firstOf o1 c_all_left c_all_next c_all_slots c_all_solvedGains c_all_ways v1 (v2 + 1)
set_option maxHeartbeats 4000000 in
set_option maxRecDepth 100000 in
theorem g_X7_solveAll_50 {κ : KC} {ω : KW} {A : Nat → Prop} {ad : Nat → Nat} {u_above : Int64} {u_below : Int64} {u_board_age : Int32} {N : Nat} {c_board_askers : Int32} {c_board_places : Int32} {c_board_seats : Nat → Int32} {c_board_wishes : Nat → Int32}  {k15 : Int32 → Int32 → Int32 → Int32 → (Nat → Int32) → (Nat → Int32) → (Nat → Int32) → (Nat → Int32) → (Nat → Int32) → (Nat → Int32) → (Nat → Int32) → (Nat → Int32) → (Nat → Int32) → (Nat → Int32) → (Nat → Int32) → Int32 → Int32 → Option (Int32 × Int32 × Int32 × Int32 × (Nat → Int32) × (Nat → Int32) × (Nat → Int32) × (Nat → Int32) × (Nat → Int32) × (Nat → Int32) × (Nat → Int32) × (Nat → Int32) × (Nat → Int32) × (Nat → Int32) × (Nat → Int32))} {res : Int32 × Int32 × Int32 × Int32 × (Nat → Int32) × (Nat → Int32) × (Nat → Int32) × (Nat → Int32) × (Nat → Int32) × (Nat → Int32) × (Nat → Int32) × (Nat → Int32) × (Nat → Int32) × (Nat → Int32) × (Nat → Int32)} (hk15 : ∀ {c_all_askers : Int32} {c_all_places : Int32} {c_all_seatBits : Int32} {c_all_entries : Int32} {c_all_best : Nat → Int32} {c_all_clipAll : Nat → Int32} {c_all_clipToOne : Nat → Int32} {c_all_clipToTwo : Nat → Int32} {c_all_firstOf : Nat → Int32} {c_all_gains : Nat → Int32} {c_all_left : Nat → Int32} {c_all_next : Nat → Int32} {c_all_slots : Nat → Int32} {c_all_solvedGains : Nat → Int32} {c_all_ways : Nat → Int32} {v1 : Int32} {v2 : Int32}, k15 c_all_askers c_all_places c_all_seatBits c_all_entries c_all_best c_all_clipAll c_all_clipToOne c_all_clipToTwo c_all_firstOf c_all_gains c_all_left c_all_next c_all_slots c_all_solvedGains c_all_ways v1 v2 = some res → GG mu_X7_solveAll κ ω A (QR κ ω A ad (none) (w_X7_solveAll res.1 res.2.1 res.2.2.1 res.2.2.2.1 c_board_askers c_board_places res.2.2.2.2.1 res.2.2.2.2.2.1 res.2.2.2.2.2.2.1 res.2.2.2.2.2.2.2.1 res.2.2.2.2.2.2.2.2.1 res.2.2.2.2.2.2.2.2.2.1 res.2.2.2.2.2.2.2.2.2.2.1 res.2.2.2.2.2.2.2.2.2.2.2.1 res.2.2.2.2.2.2.2.2.2.2.2.2.1 res.2.2.2.2.2.2.2.2.2.2.2.2.2.1 res.2.2.2.2.2.2.2.2.2.2.2.2.2.2 c_board_seats c_board_wishes u_above u_below u_board_age)) ad 0 0 15 (w_X7_solveAll c_all_askers c_all_places c_all_seatBits c_all_entries c_board_askers c_board_places c_all_best c_all_clipAll c_all_clipToOne c_all_clipToTwo c_all_firstOf c_all_gains c_all_left c_all_next c_all_slots c_all_solvedGains c_all_ways c_board_seats c_board_wishes u_above u_below u_board_age) [some (.ref 0), some (.int v1), some (.int v2)] []) {c_all_askers : Int32} {c_all_places : Int32} {c_all_seatBits : Int32} {c_all_entries : Int32} {c_all_best : Nat → Int32} {c_all_clipAll : Nat → Int32} {c_all_clipToOne : Nat → Int32} {c_all_clipToTwo : Nat → Int32} {c_all_firstOf : Nat → Int32} {c_all_gains : Nat → Int32} {c_all_left : Nat → Int32} {c_all_next : Nat → Int32} {c_all_slots : Nat → Int32} {c_all_solvedGains : Nat → Int32} {c_all_ways : Nat → Int32} {v1 : Int32} {v2 : Int32} {s1 : Int32} {s2 : Int32} {s3 : Int32} (hf : f_X7_solveAll_50 N c_board_askers c_board_places c_board_seats c_board_wishes k15 c_all_askers c_all_places c_all_seatBits c_all_entries c_all_best c_all_clipAll c_all_clipToOne c_all_clipToTwo c_all_firstOf c_all_gains c_all_left c_all_next c_all_slots c_all_solvedGains c_all_ways v1 v2 s1 s2 s3 = some res) : GG mu_X7_solveAll κ ω A (QR κ ω A ad (none) (w_X7_solveAll res.1 res.2.1 res.2.2.1 res.2.2.2.1 c_board_askers c_board_places res.2.2.2.2.1 res.2.2.2.2.2.1 res.2.2.2.2.2.2.1 res.2.2.2.2.2.2.2.1 res.2.2.2.2.2.2.2.2.1 res.2.2.2.2.2.2.2.2.2.1 res.2.2.2.2.2.2.2.2.2.2.1 res.2.2.2.2.2.2.2.2.2.2.2.1 res.2.2.2.2.2.2.2.2.2.2.2.2.1 res.2.2.2.2.2.2.2.2.2.2.2.2.2.1 res.2.2.2.2.2.2.2.2.2.2.2.2.2.2 c_board_seats c_board_wishes u_above u_below u_board_age)) ad 0 0 50 (w_X7_solveAll c_all_askers c_all_places c_all_seatBits c_all_entries c_board_askers c_board_places c_all_best c_all_clipAll c_all_clipToOne c_all_clipToTwo c_all_firstOf c_all_gains c_all_left c_all_next c_all_slots c_all_solvedGains c_all_ways c_board_seats c_board_wishes u_above u_below u_board_age) [some (.ref 0), some (.int v1), some (.int v2)] [.int s3, .int s2, .int s1, .ref 1] := by
  obtain ⟨o1, hc2, hf⟩ := ob hf
  refine G_callV (μ2 := mu_X4_setGain) (As := [.int s1, .int s2, .int s3]) (w2 := (w_X7_solveAll c_all_askers c_all_places c_all_seatBits c_all_entries c_board_askers c_board_places c_all_best c_all_clipAll c_all_clipToOne c_all_clipToTwo c_all_firstOf o1 c_all_left c_all_next c_all_slots c_all_solvedGains c_all_ways c_board_seats c_board_wishes u_above u_below u_board_age)) (wc := (w_X4_setGain c_all_gains c_all_askers c_all_places c_all_seatBits c_all_entries)) (wc2 := (w_X4_setGain o1 c_all_askers c_all_places c_all_seatBits c_all_entries)) (rest := []) (rv := []) [1, 8] [2, 12, 9, 3, 13, 10, 7, 11, 4, 5, 6] [0, 2, 3, 4, 5, 6, 7, 9, 10, 11, 12, 13, 14, 15] [0, 14, 1, 2, 3, 4, 5, 6, 15, 7, 8, 9, 10, 11, 12, 13] (c_X4_setGain hc2) cw_X4_setGain m_X7_296 dX7_solveAll_50 rfl ⟨leb rfl, leb rfl⟩ ⟨rfl, rfl⟩ rfl ⟨_, rfl, rfl⟩ (Fit.mk rfl rfl rfl) rfl (leb rfl) (ROsub.nil rfl rfl) rfl ?_
  change GG _ _ _ _ _ _ _ _ _ (w_X7_solveAll c_all_askers c_all_places c_all_seatBits c_all_entries c_board_askers c_board_places c_all_best c_all_clipAll c_all_clipToOne c_all_clipToTwo c_all_firstOf o1 c_all_left c_all_next c_all_slots c_all_solvedGains c_all_ways c_board_seats c_board_wishes u_above u_below u_board_age) [some (.ref 0), some (.int v1), some (.int v2)] []
  refine G_iinc 1 dX7_solveAll_53 (by decide) rfl (ltb rfl) ?_
  change GG _ _ _ _ _ _ _ _ _ _ [some (.ref 0), some (.int v1), some (.int (v2 + 1))] _
  refine G_goto 15 dX7_solveAll_56 (by decide) ?_
  exact hk15 hf
def f_X7_solveAll_15 (N : Nat) (c_board_askers : Int32) (c_board_places : Int32) (c_board_seats : Nat → Int32) (c_board_wishes : Nat → Int32) (k2 : Int32 → Int32 → Int32 → Int32 → (Nat → Int32) → (Nat → Int32) → (Nat → Int32) → (Nat → Int32) → (Nat → Int32) → (Nat → Int32) → (Nat → Int32) → (Nat → Int32) → (Nat → Int32) → (Nat → Int32) → (Nat → Int32) → Int32 → Option (Int32 × Int32 × Int32 × Int32 × (Nat → Int32) × (Nat → Int32) × (Nat → Int32) × (Nat → Int32) × (Nat → Int32) × (Nat → Int32) × (Nat → Int32) × (Nat → Int32) × (Nat → Int32) × (Nat → Int32) × (Nat → Int32))) : Nat → Int32 → Int32 → Int32 → Int32 → (Nat → Int32) → (Nat → Int32) → (Nat → Int32) → (Nat → Int32) → (Nat → Int32) → (Nat → Int32) → (Nat → Int32) → (Nat → Int32) → (Nat → Int32) → (Nat → Int32) → (Nat → Int32) → Int32 → Int32 → Option (Int32 × Int32 × Int32 × Int32 × (Nat → Int32) × (Nat → Int32) × (Nat → Int32) × (Nat → Int32) × (Nat → Int32) × (Nat → Int32) × (Nat → Int32) × (Nat → Int32) × (Nat → Int32) × (Nat → Int32) × (Nat → Int32))
  | 0, _, _, _, _, _, _, _, _, _, _, _, _, _, _, _, _, _ => none
  | n + 1, c_all_askers, c_all_places, c_all_seatBits, c_all_entries, c_all_best, c_all_clipAll, c_all_clipToOne, c_all_clipToTwo, c_all_firstOf, c_all_gains, c_all_left, c_all_next, c_all_slots, c_all_solvedGains, c_all_ways, v1, v2 =>
    (if c_board_places ≤ v2 then
      k2 c_all_askers c_all_places c_all_seatBits c_all_entries c_all_best c_all_clipAll c_all_clipToOne c_all_clipToTwo c_all_firstOf c_all_gains c_all_left c_all_next c_all_slots c_all_solvedGains c_all_ways (v1 + 1)
    else
      (f_X0_isOpen N c_board_wishes v1 v2).bind fun r2 =>
      (if r2 = 0 then
        f_X7_solveAll_50 N c_board_askers c_board_places c_board_seats c_board_wishes (f_X7_solveAll_15 N c_board_askers c_board_places c_board_seats c_board_wishes k2 n) c_all_askers c_all_places c_all_seatBits c_all_entries c_all_best c_all_clipAll c_all_clipToOne c_all_clipToTwo c_all_firstOf c_all_gains c_all_left c_all_next c_all_slots c_all_solvedGains c_all_ways v1 v2 v1 v2 (-2000000000 : Int32)
      else
        f_X7_solveAll_50 N c_board_askers c_board_places c_board_seats c_board_wishes (f_X7_solveAll_15 N c_board_askers c_board_places c_board_seats c_board_wishes k2 n) c_all_askers c_all_places c_all_seatBits c_all_entries c_all_best c_all_clipAll c_all_clipToOne c_all_clipToTwo c_all_firstOf c_all_gains c_all_left c_all_next c_all_slots c_all_solvedGains c_all_ways v1 v2 v1 v2 0))
set_option maxHeartbeats 4000000 in
set_option maxRecDepth 100000 in
theorem g_X7_solveAll_15 {κ : KC} {ω : KW} {A : Nat → Prop} {ad : Nat → Nat} {u_above : Int64} {u_below : Int64} {u_board_age : Int32} {N : Nat} {c_board_askers : Int32} {c_board_places : Int32} {c_board_seats : Nat → Int32} {c_board_wishes : Nat → Int32}  {k2 : Int32 → Int32 → Int32 → Int32 → (Nat → Int32) → (Nat → Int32) → (Nat → Int32) → (Nat → Int32) → (Nat → Int32) → (Nat → Int32) → (Nat → Int32) → (Nat → Int32) → (Nat → Int32) → (Nat → Int32) → (Nat → Int32) → Int32 → Option (Int32 × Int32 × Int32 × Int32 × (Nat → Int32) × (Nat → Int32) × (Nat → Int32) × (Nat → Int32) × (Nat → Int32) × (Nat → Int32) × (Nat → Int32) × (Nat → Int32) × (Nat → Int32) × (Nat → Int32) × (Nat → Int32))} {res : Int32 × Int32 × Int32 × Int32 × (Nat → Int32) × (Nat → Int32) × (Nat → Int32) × (Nat → Int32) × (Nat → Int32) × (Nat → Int32) × (Nat → Int32) × (Nat → Int32) × (Nat → Int32) × (Nat → Int32) × (Nat → Int32)} (hk2 : ∀ {c_all_askers : Int32} {c_all_places : Int32} {c_all_seatBits : Int32} {c_all_entries : Int32} {c_all_best : Nat → Int32} {c_all_clipAll : Nat → Int32} {c_all_clipToOne : Nat → Int32} {c_all_clipToTwo : Nat → Int32} {c_all_firstOf : Nat → Int32} {c_all_gains : Nat → Int32} {c_all_left : Nat → Int32} {c_all_next : Nat → Int32} {c_all_slots : Nat → Int32} {c_all_solvedGains : Nat → Int32} {c_all_ways : Nat → Int32} {v1 : Int32}, k2 c_all_askers c_all_places c_all_seatBits c_all_entries c_all_best c_all_clipAll c_all_clipToOne c_all_clipToTwo c_all_firstOf c_all_gains c_all_left c_all_next c_all_slots c_all_solvedGains c_all_ways v1 = some res → GG mu_X7_solveAll κ ω A (QR κ ω A ad (none) (w_X7_solveAll res.1 res.2.1 res.2.2.1 res.2.2.2.1 c_board_askers c_board_places res.2.2.2.2.1 res.2.2.2.2.2.1 res.2.2.2.2.2.2.1 res.2.2.2.2.2.2.2.1 res.2.2.2.2.2.2.2.2.1 res.2.2.2.2.2.2.2.2.2.1 res.2.2.2.2.2.2.2.2.2.2.1 res.2.2.2.2.2.2.2.2.2.2.2.1 res.2.2.2.2.2.2.2.2.2.2.2.2.1 res.2.2.2.2.2.2.2.2.2.2.2.2.2.1 res.2.2.2.2.2.2.2.2.2.2.2.2.2.2 c_board_seats c_board_wishes u_above u_below u_board_age)) ad 0 0 2 (w_X7_solveAll c_all_askers c_all_places c_all_seatBits c_all_entries c_board_askers c_board_places c_all_best c_all_clipAll c_all_clipToOne c_all_clipToTwo c_all_firstOf c_all_gains c_all_left c_all_next c_all_slots c_all_solvedGains c_all_ways c_board_seats c_board_wishes u_above u_below u_board_age) [some (.ref 0), some (.int v1), none] []) : ∀ (n : Nat) {c_all_askers : Int32} {c_all_places : Int32} {c_all_seatBits : Int32} {c_all_entries : Int32} {c_all_best : Nat → Int32} {c_all_clipAll : Nat → Int32} {c_all_clipToOne : Nat → Int32} {c_all_clipToTwo : Nat → Int32} {c_all_firstOf : Nat → Int32} {c_all_gains : Nat → Int32} {c_all_left : Nat → Int32} {c_all_next : Nat → Int32} {c_all_slots : Nat → Int32} {c_all_solvedGains : Nat → Int32} {c_all_ways : Nat → Int32} {v1 : Int32} {v2 : Int32}, f_X7_solveAll_15 N c_board_askers c_board_places c_board_seats c_board_wishes k2 n c_all_askers c_all_places c_all_seatBits c_all_entries c_all_best c_all_clipAll c_all_clipToOne c_all_clipToTwo c_all_firstOf c_all_gains c_all_left c_all_next c_all_slots c_all_solvedGains c_all_ways v1 v2 = some res → GG mu_X7_solveAll κ ω A (QR κ ω A ad (none) (w_X7_solveAll res.1 res.2.1 res.2.2.1 res.2.2.2.1 c_board_askers c_board_places res.2.2.2.2.1 res.2.2.2.2.2.1 res.2.2.2.2.2.2.1 res.2.2.2.2.2.2.2.1 res.2.2.2.2.2.2.2.2.1 res.2.2.2.2.2.2.2.2.2.1 res.2.2.2.2.2.2.2.2.2.2.1 res.2.2.2.2.2.2.2.2.2.2.2.1 res.2.2.2.2.2.2.2.2.2.2.2.2.1 res.2.2.2.2.2.2.2.2.2.2.2.2.2.1 res.2.2.2.2.2.2.2.2.2.2.2.2.2.2 c_board_seats c_board_wishes u_above u_below u_board_age)) ad 0 0 15 (w_X7_solveAll c_all_askers c_all_places c_all_seatBits c_all_entries c_board_askers c_board_places c_all_best c_all_clipAll c_all_clipToOne c_all_clipToTwo c_all_firstOf c_all_gains c_all_left c_all_next c_all_slots c_all_solvedGains c_all_ways c_board_seats c_board_wishes u_above u_below u_board_age) [some (.ref 0), some (.int v1), some (.int v2)] [] := by
  intro n
  induction n with
  | zero => intro c_all_askers c_all_places c_all_seatBits c_all_entries c_all_best c_all_clipAll c_all_clipToOne c_all_clipToTwo c_all_firstOf c_all_gains c_all_left c_all_next c_all_slots c_all_solvedGains c_all_ways v1 v2 hf; exact ob_0 hf
  | succ n ih =>
    intro c_all_askers c_all_places c_all_seatBits c_all_entries c_all_best c_all_clipAll c_all_clipToOne c_all_clipToTwo c_all_firstOf c_all_gains c_all_left c_all_next c_all_slots c_all_solvedGains c_all_ways v1 v2 hf
    refine G_iload_n dX7_solveAll_15 rfl rfl ?_
    refine G_aload_n dX7_solveAll_16 rfl rfl ?_
    refine G_get (v := .ref 2) F_X7_10 dX7_solveAll_17 rfl rfl ?_
    refine G_get (v := .int c_board_places) F_X7_91 dX7_solveAll_20 rfl rfl ?_
    refine G_icmp_ge 59 dX7_solveAll_23 (by decide) (fun h1 => ?_) (fun h1 => ?_)
    · replace hf := ob_t h1 hf
      refine G_iinc 1 dX7_solveAll_59 (by decide) rfl (ltb rfl) ?_
      change GG _ _ _ _ _ _ _ _ _ _ [some (.ref 0), some (.int (v1 + 1)), some (.int v2)] _
      refine G_goto 2 dX7_solveAll_62 (by decide) ?_
      refine GG.sb (lv2 := [some (.ref 0), some (.int (v1 + 1)), none]) ?_ (lvS_v rfl (lvS_v rfl (lvS_n (lvS_e))))
      exact hk2 hf
    · replace hf := ob_f h1 hf
      refine G_aload_n dX7_solveAll_26 rfl rfl ?_
      refine G_get (v := .ref 1) F_X7_21 dX7_solveAll_27 rfl rfl ?_
      refine G_iload_n dX7_solveAll_30 rfl rfl ?_
      refine G_iload_n dX7_solveAll_31 rfl rfl ?_
      refine G_aload_n dX7_solveAll_32 rfl rfl ?_
      refine G_get (v := .ref 2) F_X7_10 dX7_solveAll_33 rfl rfl ?_
      refine G_iload_n dX7_solveAll_36 rfl rfl ?_
      refine G_iload_n dX7_solveAll_37 rfl rfl ?_
      obtain ⟨r2, hc3, hf⟩ := ob hf
      refine G_callV (μ2 := mu_X0_isOpen) (As := [.int v1, .int v2]) (w2 := (w_X7_solveAll c_all_askers c_all_places c_all_seatBits c_all_entries c_board_askers c_board_places c_all_best c_all_clipAll c_all_clipToOne c_all_clipToTwo c_all_firstOf c_all_gains c_all_left c_all_next c_all_slots c_all_solvedGains c_all_ways c_board_seats c_board_wishes u_above u_below u_board_age)) (wc := (w_X0_isOpen c_board_wishes c_board_askers c_board_places u_board_age)) (wc2 := (w_X0_isOpen c_board_wishes c_board_askers c_board_places u_board_age)) (rest := [.int v2, .int v1, .ref 1]) (rv := [.int r2]) [2, 15] [14, 1008, 1009] [0, 1, 3, 4, 5, 6, 7, 8, 9, 10, 11, 12, 13, 14] [0, 1, 14, 2, 3, 4, 5, 6, 7, 8, 9, 10, 11, 12, 13, 15] (c_X0_isOpen hc3) cw_X0_isOpen m_X7_292 dX7_solveAll_38 rfl ⟨leb rfl, leb rfl⟩ ⟨rfl, rfl⟩ rfl ⟨_, rfl, rfl⟩ (Fit.mk rfl rfl rfl) rfl (leb rfl) (ROsub.nil rfl rfl) rfl ?_
      change GG _ _ _ _ _ _ _ _ _ (w_X7_solveAll c_all_askers c_all_places c_all_seatBits c_all_entries c_board_askers c_board_places c_all_best c_all_clipAll c_all_clipToOne c_all_clipToTwo c_all_firstOf c_all_gains c_all_left c_all_next c_all_slots c_all_solvedGains c_all_ways c_board_seats c_board_wishes u_above u_below u_board_age) [some (.ref 0), some (.int v1), some (.int v2)] [.int r2, .int v2, .int v1, .ref 1]
      refine G_if_eq 48 dX7_solveAll_41 (by decide) (fun h4 => ?_) (fun h4 => ?_)
      · replace hf := ob_t h4 hf
        refine G_ldc (v := (-2000000000 : Int32)) dX7_solveAll_48 k_X7_193 ?_
        exact g_X7_solveAll_50 ih hf
      · replace hf := ob_f h4 hf
        refine G_iconst 0 dX7_solveAll_44 (by decide) ?_
        refine G_goto 50 dX7_solveAll_45 (by decide) ?_
        exact g_X7_solveAll_50 ih hf
def f_X7_solveAll_2 (N : Nat) (c_board_askers : Int32) (c_board_places : Int32) (c_board_seats : Nat → Int32) (c_board_wishes : Nat → Int32) : Nat → Int32 → Int32 → Int32 → Int32 → (Nat → Int32) → (Nat → Int32) → (Nat → Int32) → (Nat → Int32) → (Nat → Int32) → (Nat → Int32) → (Nat → Int32) → (Nat → Int32) → (Nat → Int32) → (Nat → Int32) → (Nat → Int32) → Int32 → Option (Int32 × Int32 × Int32 × Int32 × (Nat → Int32) × (Nat → Int32) × (Nat → Int32) × (Nat → Int32) × (Nat → Int32) × (Nat → Int32) × (Nat → Int32) × (Nat → Int32) × (Nat → Int32) × (Nat → Int32) × (Nat → Int32))
  | 0, _, _, _, _, _, _, _, _, _, _, _, _, _, _, _, _ => none
  | n + 1, c_all_askers, c_all_places, c_all_seatBits, c_all_entries, c_all_best, c_all_clipAll, c_all_clipToOne, c_all_clipToTwo, c_all_firstOf, c_all_gains, c_all_left, c_all_next, c_all_slots, c_all_solvedGains, c_all_ways, v1 =>
    (if c_board_askers ≤ v1 then
      (f_X4_solve N c_board_askers c_board_places c_all_gains c_board_seats c_all_askers c_all_places c_all_seatBits c_all_entries c_all_best c_all_clipAll c_all_clipToOne c_all_clipToTwo c_all_firstOf c_all_left c_all_next c_all_slots c_all_solvedGains c_all_ways).bind fun (o2, o3, o4, o5, o6, o7, o8, o9, o10, o11, o12, o13, o14, o15) =>
      some (o2, o3, o4, o5, o6, o7, o8, o9, o10, c_all_gains, o11, o12, o13, o14, o15)
    else
      f_X7_solveAll_15 N c_board_askers c_board_places c_board_seats c_board_wishes (f_X7_solveAll_2 N c_board_askers c_board_places c_board_seats c_board_wishes n) N c_all_askers c_all_places c_all_seatBits c_all_entries c_all_best c_all_clipAll c_all_clipToOne c_all_clipToTwo c_all_firstOf c_all_gains c_all_left c_all_next c_all_slots c_all_solvedGains c_all_ways v1 (-1 : Int32))
set_option maxHeartbeats 4000000 in
set_option maxRecDepth 100000 in
theorem g_X7_solveAll_2 {κ : KC} {ω : KW} {A : Nat → Prop} {ad : Nat → Nat} {u_above : Int64} {u_below : Int64} {u_board_age : Int32} {N : Nat} {c_board_askers : Int32} {c_board_places : Int32} {c_board_seats : Nat → Int32} {c_board_wishes : Nat → Int32}  {res : Int32 × Int32 × Int32 × Int32 × (Nat → Int32) × (Nat → Int32) × (Nat → Int32) × (Nat → Int32) × (Nat → Int32) × (Nat → Int32) × (Nat → Int32) × (Nat → Int32) × (Nat → Int32) × (Nat → Int32) × (Nat → Int32)} : ∀ (n : Nat) {c_all_askers : Int32} {c_all_places : Int32} {c_all_seatBits : Int32} {c_all_entries : Int32} {c_all_best : Nat → Int32} {c_all_clipAll : Nat → Int32} {c_all_clipToOne : Nat → Int32} {c_all_clipToTwo : Nat → Int32} {c_all_firstOf : Nat → Int32} {c_all_gains : Nat → Int32} {c_all_left : Nat → Int32} {c_all_next : Nat → Int32} {c_all_slots : Nat → Int32} {c_all_solvedGains : Nat → Int32} {c_all_ways : Nat → Int32} {v1 : Int32}, f_X7_solveAll_2 N c_board_askers c_board_places c_board_seats c_board_wishes n c_all_askers c_all_places c_all_seatBits c_all_entries c_all_best c_all_clipAll c_all_clipToOne c_all_clipToTwo c_all_firstOf c_all_gains c_all_left c_all_next c_all_slots c_all_solvedGains c_all_ways v1 = some res → GG mu_X7_solveAll κ ω A (QR κ ω A ad (none) (w_X7_solveAll res.1 res.2.1 res.2.2.1 res.2.2.2.1 c_board_askers c_board_places res.2.2.2.2.1 res.2.2.2.2.2.1 res.2.2.2.2.2.2.1 res.2.2.2.2.2.2.2.1 res.2.2.2.2.2.2.2.2.1 res.2.2.2.2.2.2.2.2.2.1 res.2.2.2.2.2.2.2.2.2.2.1 res.2.2.2.2.2.2.2.2.2.2.2.1 res.2.2.2.2.2.2.2.2.2.2.2.2.1 res.2.2.2.2.2.2.2.2.2.2.2.2.2.1 res.2.2.2.2.2.2.2.2.2.2.2.2.2.2 c_board_seats c_board_wishes u_above u_below u_board_age)) ad 0 0 2 (w_X7_solveAll c_all_askers c_all_places c_all_seatBits c_all_entries c_board_askers c_board_places c_all_best c_all_clipAll c_all_clipToOne c_all_clipToTwo c_all_firstOf c_all_gains c_all_left c_all_next c_all_slots c_all_solvedGains c_all_ways c_board_seats c_board_wishes u_above u_below u_board_age) [some (.ref 0), some (.int v1), none] [] := by
  intro n
  induction n with
  | zero => intro c_all_askers c_all_places c_all_seatBits c_all_entries c_all_best c_all_clipAll c_all_clipToOne c_all_clipToTwo c_all_firstOf c_all_gains c_all_left c_all_next c_all_slots c_all_solvedGains c_all_ways v1 hf; exact ob_0 hf
  | succ n ih =>
    intro c_all_askers c_all_places c_all_seatBits c_all_entries c_all_best c_all_clipAll c_all_clipToOne c_all_clipToTwo c_all_firstOf c_all_gains c_all_left c_all_next c_all_slots c_all_solvedGains c_all_ways v1 hf
    refine G_iload_n dX7_solveAll_2 rfl rfl ?_
    refine G_aload_n dX7_solveAll_3 rfl rfl ?_
    refine G_get (v := .ref 2) F_X7_10 dX7_solveAll_4 rfl rfl ?_
    refine G_get (v := .int c_board_askers) F_X7_79 dX7_solveAll_7 rfl rfl ?_
    refine G_icmp_ge 65 dX7_solveAll_10 (by decide) (fun h1 => ?_) (fun h1 => ?_)
    · replace hf := ob_t h1 hf
      refine G_aload_n dX7_solveAll_65 rfl rfl ?_
      refine G_get (v := .ref 1) F_X7_21 dX7_solveAll_66 rfl rfl ?_
      obtain ⟨⟨o2, o3, o4, o5, o6, o7, o8, o9, o10, o11, o12, o13, o14, o15⟩, hc16, hf⟩ := ob hf
      refine G_callV (μ2 := mu_X4_solve) (As := []) (w2 := (w_X7_solveAll o2 o3 o4 o5 c_board_askers c_board_places o6 o7 o8 o9 o10 c_all_gains o11 o12 o13 o14 o15 c_board_seats c_board_wishes u_above u_below u_board_age)) (wc := (w_X4_solve c_all_askers c_all_places c_all_seatBits c_all_entries c_all_best c_board_askers c_board_places c_all_clipAll c_all_clipToOne c_all_clipToTwo c_all_firstOf c_all_gains c_all_left c_all_next c_all_slots c_all_solvedGains c_all_ways c_board_seats u_board_age)) (wc2 := (w_X4_solve o2 o3 o4 o5 o6 c_board_askers c_board_places o7 o8 o9 o10 c_all_gains o11 o12 o13 o14 o15 c_board_seats u_board_age)) (rest := []) (rv := []) [1, 3, 2, 4, 5, 6, 7, 8, 9, 10, 11, 12, 13, 14] [15, 1008, 1009] [0, 15] [0, 2, 4, 3, 5, 6, 7, 8, 9, 10, 11, 12, 13, 14, 15, 1] (c_X4_solve hc16) cw_X4_solve m_X7_201 dX7_solveAll_69 rfl ⟨leb rfl, leb rfl⟩ ⟨rfl, rfl⟩ rfl ⟨_, rfl, rfl⟩ (Fit.mk rfl rfl rfl) rfl (leb rfl) (ROsub.nil rfl rfl) rfl ?_
      change GG _ _ _ _ _ _ _ _ _ (w_X7_solveAll o2 o3 o4 o5 c_board_askers c_board_places o6 o7 o8 o9 o10 c_all_gains o11 o12 o13 o14 o15 c_board_seats c_board_wishes u_above u_below u_board_age) [some (.ref 0), some (.int v1), none] []
      obtain rfl := os hf
      exact G_return dX7_solveAll_72 rfl
    · replace hf := ob_f h1 hf
      refine G_iconst (-1 : Int32) dX7_solveAll_13 (by decide) ?_
      refine G_istore_n dX7_solveAll_14 rfl (ltb rfl) ?_
      change GG _ _ _ _ _ _ _ _ _ _ [some (.ref 0), some (.int v1), some (.int (-1 : Int32))] _
      exact g_X7_solveAll_15 ih N hf
def f_X7_solveAll (N : Nat) (c_board_askers : Int32) (c_board_places : Int32) (c_board_seats : Nat → Int32) (c_board_wishes : Nat → Int32) (c_all_askers : Int32) (c_all_places : Int32) (c_all_seatBits : Int32) (c_all_entries : Int32) (c_all_best : Nat → Int32) (c_all_clipAll : Nat → Int32) (c_all_clipToOne : Nat → Int32) (c_all_clipToTwo : Nat → Int32) (c_all_firstOf : Nat → Int32) (c_all_gains : Nat → Int32) (c_all_left : Nat → Int32) (c_all_next : Nat → Int32) (c_all_slots : Nat → Int32) (c_all_solvedGains : Nat → Int32) (c_all_ways : Nat → Int32)  : Option (Int32 × Int32 × Int32 × Int32 × (Nat → Int32) × (Nat → Int32) × (Nat → Int32) × (Nat → Int32) × (Nat → Int32) × (Nat → Int32) × (Nat → Int32) × (Nat → Int32) × (Nat → Int32) × (Nat → Int32) × (Nat → Int32)) :=
  f_X7_solveAll_2 N c_board_askers c_board_places c_board_seats c_board_wishes N c_all_askers c_all_places c_all_seatBits c_all_entries c_all_best c_all_clipAll c_all_clipToOne c_all_clipToTwo c_all_firstOf c_all_gains c_all_left c_all_next c_all_slots c_all_solvedGains c_all_ways 0
set_option maxHeartbeats 4000000 in
set_option maxRecDepth 100000 in
theorem c_X7_solveAll {N : Nat} {c_board_askers : Int32} {c_board_places : Int32} {c_board_seats : Nat → Int32} {c_board_wishes : Nat → Int32} {c_all_askers : Int32} {c_all_places : Int32} {c_all_seatBits : Int32} {c_all_entries : Int32} {c_all_best : Nat → Int32} {c_all_clipAll : Nat → Int32} {c_all_clipToOne : Nat → Int32} {c_all_clipToTwo : Nat → Int32} {c_all_firstOf : Nat → Int32} {c_all_gains : Nat → Int32} {c_all_left : Nat → Int32} {c_all_next : Nat → Int32} {c_all_slots : Nat → Int32} {c_all_solvedGains : Nat → Int32} {c_all_ways : Nat → Int32} {u_above : Int64} {u_below : Int64} {u_board_age : Int32}  {res : Int32 × Int32 × Int32 × Int32 × (Nat → Int32) × (Nat → Int32) × (Nat → Int32) × (Nat → Int32) × (Nat → Int32) × (Nat → Int32) × (Nat → Int32) × (Nat → Int32) × (Nat → Int32) × (Nat → Int32) × (Nat → Int32)} (hf : f_X7_solveAll N c_board_askers c_board_places c_board_seats c_board_wishes c_all_askers c_all_places c_all_seatBits c_all_entries c_all_best c_all_clipAll c_all_clipToOne c_all_clipToTwo c_all_firstOf c_all_gains c_all_left c_all_next c_all_slots c_all_solvedGains c_all_ways = some res) : Con mu_X7_solveAll [.ref 0] (w_X7_solveAll c_all_askers c_all_places c_all_seatBits c_all_entries c_board_askers c_board_places c_all_best c_all_clipAll c_all_clipToOne c_all_clipToTwo c_all_firstOf c_all_gains c_all_left c_all_next c_all_slots c_all_solvedGains c_all_ways c_board_seats c_board_wishes u_above u_below u_board_age) (none) (w_X7_solveAll res.1 res.2.1 res.2.2.1 res.2.2.2.1 c_board_askers c_board_places res.2.2.2.2.1 res.2.2.2.2.2.1 res.2.2.2.2.2.2.1 res.2.2.2.2.2.2.2.1 res.2.2.2.2.2.2.2.2.1 res.2.2.2.2.2.2.2.2.2.1 res.2.2.2.2.2.2.2.2.2.2.1 res.2.2.2.2.2.2.2.2.2.2.2.1 res.2.2.2.2.2.2.2.2.2.2.2.2.1 res.2.2.2.2.2.2.2.2.2.2.2.2.2.1 res.2.2.2.2.2.2.2.2.2.2.2.2.2.2 c_board_seats c_board_wishes u_above u_below u_board_age) := by
  refine Con.mk (show plainName RX7 = true by decide +kernel) (leb rfl) (fun κ ω A ad => ?_)
  change GG mu_X7_solveAll κ ω A (QR κ ω A ad (none) (w_X7_solveAll res.1 res.2.1 res.2.2.1 res.2.2.2.1 c_board_askers c_board_places res.2.2.2.2.1 res.2.2.2.2.2.1 res.2.2.2.2.2.2.1 res.2.2.2.2.2.2.2.1 res.2.2.2.2.2.2.2.2.1 res.2.2.2.2.2.2.2.2.2.1 res.2.2.2.2.2.2.2.2.2.2.1 res.2.2.2.2.2.2.2.2.2.2.2.1 res.2.2.2.2.2.2.2.2.2.2.2.2.1 res.2.2.2.2.2.2.2.2.2.2.2.2.2.1 res.2.2.2.2.2.2.2.2.2.2.2.2.2.2 c_board_seats c_board_wishes u_above u_below u_board_age)) ad 0 0 0 (w_X7_solveAll c_all_askers c_all_places c_all_seatBits c_all_entries c_board_askers c_board_places c_all_best c_all_clipAll c_all_clipToOne c_all_clipToTwo c_all_firstOf c_all_gains c_all_left c_all_next c_all_slots c_all_solvedGains c_all_ways c_board_seats c_board_wishes u_above u_below u_board_age) [some (.ref 0), none, none] []
  refine G_iconst 0 dX7_solveAll_0 (by decide) ?_
  refine G_istore_n dX7_solveAll_1 rfl (ltb rfl) ?_
  change GG _ _ _ _ _ _ _ _ _ _ [some (.ref 0), some (.int 0), none] _
  exact g_X7_solveAll_2 N hf
set_option maxRecDepth 20000 in
theorem dX7_givings_0 : decode cX7_givings 0 = .ok (.aload_n 0, 1) := by decide +kernel
set_option maxRecDepth 20000 in
theorem dX7_givings_1 : decode cX7_givings 1 = .ok (.invokevirtual 121, 3) := by decide +kernel
set_option maxRecDepth 20000 in
theorem dX7_givings_4 : decode cX7_givings 4 = .ok (.aload_n 0, 1) := by decide +kernel
set_option maxRecDepth 20000 in
theorem dX7_givings_5 : decode cX7_givings 5 = .ok (.getfield 21, 3) := by decide +kernel
set_option maxRecDepth 20000 in
theorem dX7_givings_8 : decode cX7_givings 8 = .ok (.invokevirtual 124, 3) := by decide +kernel
set_option maxRecDepth 20000 in
theorem dX7_givings_11 : decode cX7_givings 11 = .ok (.i2l, 1) := by decide +kernel
set_option maxRecDepth 20000 in
theorem dX7_givings_12 : decode cX7_givings 12 = .ok (.lreturn, 1) := by decide +kernel
def f_X7_givings (N : Nat) (c_board_askers : Int32) (c_board_places : Int32) (c_board_seats : Nat → Int32) (c_board_wishes : Nat → Int32) (c_all_askers : Int32) (c_all_places : Int32) (c_all_seatBits : Int32) (c_all_entries : Int32) (c_all_best : Nat → Int32) (c_all_clipAll : Nat → Int32) (c_all_clipToOne : Nat → Int32) (c_all_clipToTwo : Nat → Int32) (c_all_firstOf : Nat → Int32) (c_all_gains : Nat → Int32) (c_all_left : Nat → Int32) (c_all_next : Nat → Int32) (c_all_slots : Nat → Int32) (c_all_solvedGains : Nat → Int32) (c_all_ways : Nat → Int32)  : Option (Int64 × Int32 × Int32 × Int32 × Int32 × (Nat → Int32) × (Nat → Int32) × (Nat → Int32) × (Nat → Int32) × (Nat → Int32) × (Nat → Int32) × (Nat → Int32) × (Nat → Int32) × (Nat → Int32) × (Nat → Int32) × (Nat → Int32)) :=
  (f_X7_solveAll N c_board_askers c_board_places c_board_seats c_board_wishes c_all_askers c_all_places c_all_seatBits c_all_entries c_all_best c_all_clipAll c_all_clipToOne c_all_clipToTwo c_all_firstOf c_all_gains c_all_left c_all_next c_all_slots c_all_solvedGains c_all_ways).bind fun (o1, o2, o3, o4, o5, o6, o7, o8, o9, o10, o11, o12, o13, o14, o15) =>
  (f_X4_howMany N o15).bind fun r17 =>
  some (r17.toInt64, o1, o2, o3, o4, o5, o6, o7, o8, o9, o10, o11, o12, o13, o14, o15)
set_option maxHeartbeats 4000000 in
set_option maxRecDepth 100000 in
theorem c_X7_givings {N : Nat} {c_board_askers : Int32} {c_board_places : Int32} {c_board_seats : Nat → Int32} {c_board_wishes : Nat → Int32} {c_all_askers : Int32} {c_all_places : Int32} {c_all_seatBits : Int32} {c_all_entries : Int32} {c_all_best : Nat → Int32} {c_all_clipAll : Nat → Int32} {c_all_clipToOne : Nat → Int32} {c_all_clipToTwo : Nat → Int32} {c_all_firstOf : Nat → Int32} {c_all_gains : Nat → Int32} {c_all_left : Nat → Int32} {c_all_next : Nat → Int32} {c_all_slots : Nat → Int32} {c_all_solvedGains : Nat → Int32} {c_all_ways : Nat → Int32} {u_above : Int64} {u_below : Int64} {u_board_age : Int32}  {res : Int64 × Int32 × Int32 × Int32 × Int32 × (Nat → Int32) × (Nat → Int32) × (Nat → Int32) × (Nat → Int32) × (Nat → Int32) × (Nat → Int32) × (Nat → Int32) × (Nat → Int32) × (Nat → Int32) × (Nat → Int32) × (Nat → Int32)} (hf : f_X7_givings N c_board_askers c_board_places c_board_seats c_board_wishes c_all_askers c_all_places c_all_seatBits c_all_entries c_all_best c_all_clipAll c_all_clipToOne c_all_clipToTwo c_all_firstOf c_all_gains c_all_left c_all_next c_all_slots c_all_solvedGains c_all_ways = some res) : Con mu_X7_givings [.ref 0] (w_X7_givings c_all_askers c_all_places c_all_seatBits c_all_entries c_board_askers c_board_places c_all_best c_all_clipAll c_all_clipToOne c_all_clipToTwo c_all_firstOf c_all_gains c_all_left c_all_next c_all_slots c_all_solvedGains c_all_ways c_board_seats c_board_wishes u_above u_below u_board_age) (some (.long res.1)) (w_X7_givings res.2.1 res.2.2.1 res.2.2.2.1 res.2.2.2.2.1 c_board_askers c_board_places res.2.2.2.2.2.1 res.2.2.2.2.2.2.1 res.2.2.2.2.2.2.2.1 res.2.2.2.2.2.2.2.2.1 res.2.2.2.2.2.2.2.2.2.1 res.2.2.2.2.2.2.2.2.2.2.1 res.2.2.2.2.2.2.2.2.2.2.2.1 res.2.2.2.2.2.2.2.2.2.2.2.2.1 res.2.2.2.2.2.2.2.2.2.2.2.2.2.1 res.2.2.2.2.2.2.2.2.2.2.2.2.2.2.1 res.2.2.2.2.2.2.2.2.2.2.2.2.2.2.2 c_board_seats c_board_wishes u_above u_below u_board_age) := by
  refine Con.mk (show plainName RX7 = true by decide +kernel) (leb rfl) (fun κ ω A ad => ?_)
  change GG mu_X7_givings κ ω A (QR κ ω A ad (some (.long res.1)) (w_X7_givings res.2.1 res.2.2.1 res.2.2.2.1 res.2.2.2.2.1 c_board_askers c_board_places res.2.2.2.2.2.1 res.2.2.2.2.2.2.1 res.2.2.2.2.2.2.2.1 res.2.2.2.2.2.2.2.2.1 res.2.2.2.2.2.2.2.2.2.1 res.2.2.2.2.2.2.2.2.2.2.1 res.2.2.2.2.2.2.2.2.2.2.2.1 res.2.2.2.2.2.2.2.2.2.2.2.2.1 res.2.2.2.2.2.2.2.2.2.2.2.2.2.1 res.2.2.2.2.2.2.2.2.2.2.2.2.2.2.1 res.2.2.2.2.2.2.2.2.2.2.2.2.2.2.2 c_board_seats c_board_wishes u_above u_below u_board_age)) ad 0 0 0 (w_X7_givings c_all_askers c_all_places c_all_seatBits c_all_entries c_board_askers c_board_places c_all_best c_all_clipAll c_all_clipToOne c_all_clipToTwo c_all_firstOf c_all_gains c_all_left c_all_next c_all_slots c_all_solvedGains c_all_ways c_board_seats c_board_wishes u_above u_below u_board_age) [some (.ref 0)] []
  refine G_aload_n dX7_givings_0 rfl rfl ?_
  obtain ⟨⟨o1, o2, o3, o4, o5, o6, o7, o8, o9, o10, o11, o12, o13, o14, o15⟩, hc16, hf⟩ := ob hf
  refine G_callV (μ2 := mu_X7_solveAll) (As := []) (w2 := (w_X7_givings o1 o2 o3 o4 c_board_askers c_board_places o5 o6 o7 o8 o9 o10 o11 o12 o13 o14 o15 c_board_seats c_board_wishes u_above u_below u_board_age)) (wc := (w_X7_solveAll c_all_askers c_all_places c_all_seatBits c_all_entries c_board_askers c_board_places c_all_best c_all_clipAll c_all_clipToOne c_all_clipToTwo c_all_firstOf c_all_gains c_all_left c_all_next c_all_slots c_all_solvedGains c_all_ways c_board_seats c_board_wishes u_above u_below u_board_age)) (wc2 := (w_X7_solveAll o1 o2 o3 o4 c_board_askers c_board_places o5 o6 o7 o8 o9 o10 o11 o12 o13 o14 o15 c_board_seats c_board_wishes u_above u_below u_board_age)) (rest := []) (rv := []) [0, 1, 2, 3, 4, 5, 6, 7, 8, 9, 10, 11, 12, 13, 14, 15] [1000, 1001, 1002, 1003, 1004, 1005, 1006, 1007, 1008, 1009] [] [0, 1, 2, 3, 4, 5, 6, 7, 8, 9, 10, 11, 12, 13, 14, 15] (c_X7_solveAll hc16) cw_X7_solveAll m_X7_121 dX7_givings_1 rfl ⟨leb rfl, leb rfl⟩ ⟨rfl, rfl⟩ rfl ⟨_, rfl, rfl⟩ (Fit.mk rfl rfl rfl) rfl (leb rfl) (ROsub.nil rfl rfl) rfl ?_
  change GG _ _ _ _ _ _ _ _ _ (w_X7_givings o1 o2 o3 o4 c_board_askers c_board_places o5 o6 o7 o8 o9 o10 o11 o12 o13 o14 o15 c_board_seats c_board_wishes u_above u_below u_board_age) [some (.ref 0)] []
  refine G_aload_n dX7_givings_4 rfl rfl ?_
  refine G_get (v := .ref 1) F_X7_21 dX7_givings_5 rfl rfl ?_
  obtain ⟨r17, hc18, hf⟩ := ob hf
  refine G_callV (μ2 := mu_X4_howMany) (As := []) (w2 := (w_X7_givings o1 o2 o3 o4 c_board_askers c_board_places o5 o6 o7 o8 o9 o10 o11 o12 o13 o14 o15 c_board_seats c_board_wishes u_above u_below u_board_age)) (wc := (w_X4_howMany o15 o1 o2 o3 o4)) (wc2 := (w_X4_howMany o15 o1 o2 o3 o4)) (rest := []) (rv := [.int r17]) [1, 13] [2, 8, 12, 9, 3, 10, 7, 11, 4, 5, 6] [0, 2, 3, 4, 5, 6, 7, 8, 9, 10, 11, 12, 14, 15] [0, 14, 1, 2, 3, 4, 5, 6, 7, 8, 9, 10, 11, 15, 12, 13] (c_X4_howMany hc18) cw_X4_howMany m_X7_124 dX7_givings_8 rfl ⟨leb rfl, leb rfl⟩ ⟨rfl, rfl⟩ rfl ⟨_, rfl, rfl⟩ (Fit.mk rfl rfl rfl) rfl (leb rfl) (ROsub.nil rfl rfl) rfl ?_
  change GG _ _ _ _ _ _ _ _ _ (w_X7_givings o1 o2 o3 o4 c_board_askers c_board_places o5 o6 o7 o8 o9 o10 o11 o12 o13 o14 o15 c_board_seats c_board_wishes u_above u_below u_board_age) [some (.ref 0)] [.int r17]
  refine G_i2l dX7_givings_11 ?_
  obtain rfl := os hf
  exact G_lreturn dX7_givings_12 rfl
set_option maxRecDepth 20000 in
theorem dX7_givingAt_0 : decode cX7_givingAt 0 = .ok (.aload_n 0, 1) := by decide +kernel
set_option maxRecDepth 20000 in
theorem dX7_givingAt_1 : decode cX7_givingAt 1 = .ok (.getfield 10, 3) := by decide +kernel
set_option maxRecDepth 20000 in
theorem dX7_givingAt_4 : decode cX7_givingAt 4 = .ok (.iload_n 3, 1) := by decide +kernel
set_option maxRecDepth 20000 in
theorem dX7_givingAt_5 : decode cX7_givingAt 5 = .ok (.invokevirtual 109, 3) := by decide +kernel
set_option maxRecDepth 20000 in
theorem dX7_givingAt_8 : decode cX7_givingAt 8 = .ok (.ifCond .eq 18, 3) := by decide +kernel
set_option maxRecDepth 20000 in
theorem dX7_givingAt_11 : decode cX7_givingAt 11 = .ok (.lload_n 1, 1) := by decide +kernel
set_option maxRecDepth 20000 in
theorem dX7_givingAt_12 : decode cX7_givingAt 12 = .ok (.lconst 0, 1) := by decide +kernel
set_option maxRecDepth 20000 in
theorem dX7_givingAt_13 : decode cX7_givingAt 13 = .ok (.lcmp, 1) := by decide +kernel
set_option maxRecDepth 20000 in
theorem dX7_givingAt_14 : decode cX7_givingAt 14 = .ok (.ifCond .lt 12, 3) := by decide +kernel
set_option maxRecDepth 20000 in
theorem dX7_givingAt_17 : decode cX7_givingAt 17 = .ok (.lload_n 1, 1) := by decide +kernel
set_option maxRecDepth 20000 in
theorem dX7_givingAt_18 : decode cX7_givingAt 18 = .ok (.aload_n 0, 1) := by decide +kernel
set_option maxRecDepth 20000 in
theorem dX7_givingAt_19 : decode cX7_givingAt 19 = .ok (.invokevirtual 127, 3) := by decide +kernel
set_option maxRecDepth 20000 in
theorem dX7_givingAt_22 : decode cX7_givingAt 22 = .ok (.lcmp, 1) := by decide +kernel
set_option maxRecDepth 20000 in
theorem dX7_givingAt_23 : decode cX7_givingAt 23 = .ok (.ifCond .lt 6, 3) := by decide +kernel
set_option maxRecDepth 20000 in
theorem dX7_givingAt_26 : decode cX7_givingAt 26 = .ok (.bipush (-2), 2) := by decide +kernel
set_option maxRecDepth 20000 in
theorem dX7_givingAt_28 : decode cX7_givingAt 28 = .ok (.ireturn, 1) := by decide +kernel
set_option maxRecDepth 20000 in
theorem dX7_givingAt_29 : decode cX7_givingAt 29 = .ok (.aload_n 0, 1) := by decide +kernel
set_option maxRecDepth 20000 in
theorem dX7_givingAt_30 : decode cX7_givingAt 30 = .ok (.getfield 21, 3) := by decide +kernel
set_option maxRecDepth 20000 in
theorem dX7_givingAt_33 : decode cX7_givingAt 33 = .ok (.lload_n 1, 1) := by decide +kernel
set_option maxRecDepth 20000 in
theorem dX7_givingAt_34 : decode cX7_givingAt 34 = .ok (.l2i, 1) := by decide +kernel
set_option maxRecDepth 20000 in
theorem dX7_givingAt_35 : decode cX7_givingAt 35 = .ok (.aload_n 0, 1) := by decide +kernel
set_option maxRecDepth 20000 in
theorem dX7_givingAt_36 : decode cX7_givingAt 36 = .ok (.getfield 68, 3) := by decide +kernel
set_option maxRecDepth 20000 in
theorem dX7_givingAt_39 : decode cX7_givingAt 39 = .ok (.invokevirtual 131, 3) := by decide +kernel
set_option maxRecDepth 20000 in
theorem dX7_givingAt_42 : decode cX7_givingAt 42 = .ok (.aload_n 0, 1) := by decide +kernel
set_option maxRecDepth 20000 in
theorem dX7_givingAt_43 : decode cX7_givingAt 43 = .ok (.getfield 68, 3) := by decide +kernel
set_option maxRecDepth 20000 in
theorem dX7_givingAt_46 : decode cX7_givingAt 46 = .ok (.iload_n 3, 1) := by decide +kernel
set_option maxRecDepth 20000 in
theorem dX7_givingAt_47 : decode cX7_givingAt 47 = .ok (.iaload, 1) := by decide +kernel
set_option maxRecDepth 20000 in
theorem dX7_givingAt_48 : decode cX7_givingAt 48 = .ok (.ireturn, 1) := by decide +kernel
def f_X7_givingAt (N : Nat) (c_board_askers : Int32) (c_board_places : Int32) (c_board_seats : Nat → Int32) (c_board_wishes : Nat → Int32) (c_all_askers : Int32) (c_all_places : Int32) (c_all_seatBits : Int32) (c_all_entries : Int32) (c_row : Nat → Int32) (c_all_best : Nat → Int32) (c_all_clipAll : Nat → Int32) (c_all_clipToOne : Nat → Int32) (c_all_clipToTwo : Nat → Int32) (c_all_firstOf : Nat → Int32) (c_all_gains : Nat → Int32) (c_all_left : Nat → Int32) (c_all_next : Nat → Int32) (c_all_slots : Nat → Int32) (c_all_solvedGains : Nat → Int32) (c_all_ways : Nat → Int32) (a1 : Int64) (a3 : Int32) : Option (Int32 × Int32 × Int32 × Int32 × Int32 × (Nat → Int32) × (Nat → Int32) × (Nat → Int32) × (Nat → Int32) × (Nat → Int32) × (Nat → Int32) × (Nat → Int32) × (Nat → Int32) × (Nat → Int32) × (Nat → Int32) × (Nat → Int32) × (Nat → Int32)) :=
  (f_X0_isAsker N c_board_askers a3).bind fun r1 =>
  (if r1 = 0 then
    some ((-2 : Int32), c_all_askers, c_all_places, c_all_seatBits, c_all_entries, c_row, c_all_best, c_all_clipAll, c_all_clipToOne, c_all_clipToTwo, c_all_firstOf, c_all_gains, c_all_left, c_all_next, c_all_slots, c_all_solvedGains, c_all_ways)
  else
    (if a1 < 0 then
      some ((-2 : Int32), c_all_askers, c_all_places, c_all_seatBits, c_all_entries, c_row, c_all_best, c_all_clipAll, c_all_clipToOne, c_all_clipToTwo, c_all_firstOf, c_all_gains, c_all_left, c_all_next, c_all_slots, c_all_solvedGains, c_all_ways)
    else
      (f_X7_givings N c_board_askers c_board_places c_board_seats c_board_wishes c_all_askers c_all_places c_all_seatBits c_all_entries c_all_best c_all_clipAll c_all_clipToOne c_all_clipToTwo c_all_firstOf c_all_gains c_all_left c_all_next c_all_slots c_all_solvedGains c_all_ways).bind fun (r5, o6, o7, o8, o9, o10, o11, o12, o13, o14, o15, o16, o17, o18, o19, o20) =>
      (if a1 < r5 then
        (f_X4_pathTo N o6 o7 o10 o17 o19 o20 c_row a1.toInt32).bind fun o23 =>
        (rdI 8 o23 a3).bind fun t25 =>
        some (t25, o6, o7, o8, o9, o23, o10, o11, o12, o13, o14, o15, o16, o17, o18, o19, o20)
      else
        some ((-2 : Int32), o6, o7, o8, o9, c_row, o10, o11, o12, o13, o14, o15, o16, o17, o18, o19, o20))))
set_option maxHeartbeats 4000000 in
set_option maxRecDepth 100000 in
theorem c_X7_givingAt {N : Nat} {c_board_askers : Int32} {c_board_places : Int32} {c_board_seats : Nat → Int32} {c_board_wishes : Nat → Int32} {c_all_askers : Int32} {c_all_places : Int32} {c_all_seatBits : Int32} {c_all_entries : Int32} {c_row : Nat → Int32} {c_all_best : Nat → Int32} {c_all_clipAll : Nat → Int32} {c_all_clipToOne : Nat → Int32} {c_all_clipToTwo : Nat → Int32} {c_all_firstOf : Nat → Int32} {c_all_gains : Nat → Int32} {c_all_left : Nat → Int32} {c_all_next : Nat → Int32} {c_all_slots : Nat → Int32} {c_all_solvedGains : Nat → Int32} {c_all_ways : Nat → Int32} {u_above : Int64} {u_below : Int64} {u_board_age : Int32} {a1 : Int64} {a3 : Int32} {res : Int32 × Int32 × Int32 × Int32 × Int32 × (Nat → Int32) × (Nat → Int32) × (Nat → Int32) × (Nat → Int32) × (Nat → Int32) × (Nat → Int32) × (Nat → Int32) × (Nat → Int32) × (Nat → Int32) × (Nat → Int32) × (Nat → Int32) × (Nat → Int32)} (hf : f_X7_givingAt N c_board_askers c_board_places c_board_seats c_board_wishes c_all_askers c_all_places c_all_seatBits c_all_entries c_row c_all_best c_all_clipAll c_all_clipToOne c_all_clipToTwo c_all_firstOf c_all_gains c_all_left c_all_next c_all_slots c_all_solvedGains c_all_ways a1 a3 = some res) : Con mu_X7_givingAt [.ref 0, .long a1, .int a3] (w_X7_givingAt c_all_askers c_all_places c_all_seatBits c_all_entries c_board_askers c_board_places c_row c_all_best c_all_clipAll c_all_clipToOne c_all_clipToTwo c_all_firstOf c_all_gains c_all_left c_all_next c_all_slots c_all_solvedGains c_all_ways c_board_seats c_board_wishes u_above u_below u_board_age) (some (.int res.1)) (w_X7_givingAt res.2.1 res.2.2.1 res.2.2.2.1 res.2.2.2.2.1 c_board_askers c_board_places res.2.2.2.2.2.1 res.2.2.2.2.2.2.1 res.2.2.2.2.2.2.2.1 res.2.2.2.2.2.2.2.2.1 res.2.2.2.2.2.2.2.2.2.1 res.2.2.2.2.2.2.2.2.2.2.1 res.2.2.2.2.2.2.2.2.2.2.2.1 res.2.2.2.2.2.2.2.2.2.2.2.2.1 res.2.2.2.2.2.2.2.2.2.2.2.2.2.1 res.2.2.2.2.2.2.2.2.2.2.2.2.2.2.1 res.2.2.2.2.2.2.2.2.2.2.2.2.2.2.2.1 res.2.2.2.2.2.2.2.2.2.2.2.2.2.2.2.2 c_board_seats c_board_wishes u_above u_below u_board_age) := by
  refine Con.mk (show plainName RX7 = true by decide +kernel) (leb rfl) (fun κ ω A ad => ?_)
  change GG mu_X7_givingAt κ ω A (QR κ ω A ad (some (.int res.1)) (w_X7_givingAt res.2.1 res.2.2.1 res.2.2.2.1 res.2.2.2.2.1 c_board_askers c_board_places res.2.2.2.2.2.1 res.2.2.2.2.2.2.1 res.2.2.2.2.2.2.2.1 res.2.2.2.2.2.2.2.2.1 res.2.2.2.2.2.2.2.2.2.1 res.2.2.2.2.2.2.2.2.2.2.1 res.2.2.2.2.2.2.2.2.2.2.2.1 res.2.2.2.2.2.2.2.2.2.2.2.2.1 res.2.2.2.2.2.2.2.2.2.2.2.2.2.1 res.2.2.2.2.2.2.2.2.2.2.2.2.2.2.1 res.2.2.2.2.2.2.2.2.2.2.2.2.2.2.2.1 res.2.2.2.2.2.2.2.2.2.2.2.2.2.2.2.2 c_board_seats c_board_wishes u_above u_below u_board_age)) ad 0 0 0 (w_X7_givingAt c_all_askers c_all_places c_all_seatBits c_all_entries c_board_askers c_board_places c_row c_all_best c_all_clipAll c_all_clipToOne c_all_clipToTwo c_all_firstOf c_all_gains c_all_left c_all_next c_all_slots c_all_solvedGains c_all_ways c_board_seats c_board_wishes u_above u_below u_board_age) [some (.ref 0), some (.long a1), none, some (.int a3)] []
  refine G_aload_n dX7_givingAt_0 rfl rfl ?_
  refine G_get (v := .ref 2) F_X7_10 dX7_givingAt_1 rfl rfl ?_
  refine G_iload_n dX7_givingAt_4 rfl rfl ?_
  obtain ⟨r1, hc2, hf⟩ := ob hf
  refine G_callV (μ2 := mu_X0_isAsker) (As := [.int a3]) (w2 := (w_X7_givingAt c_all_askers c_all_places c_all_seatBits c_all_entries c_board_askers c_board_places c_row c_all_best c_all_clipAll c_all_clipToOne c_all_clipToTwo c_all_firstOf c_all_gains c_all_left c_all_next c_all_slots c_all_solvedGains c_all_ways c_board_seats c_board_wishes u_above u_below u_board_age)) (wc := (w_X0_isAsker c_board_askers c_board_places u_board_age)) (wc2 := (w_X0_isAsker c_board_askers c_board_places u_board_age)) (rest := []) (rv := [.int r1]) [2] [15, 16, 1007, 1008] [0, 1, 3, 4, 5, 6, 7, 8, 9, 10, 11, 12, 13, 14, 15, 16] [0, 1, 16, 2, 3, 4, 5, 6, 7, 8, 9, 10, 11, 12, 13, 14, 15] (c_X0_isAsker hc2) cw_X0_isAsker m_X7_109 dX7_givingAt_5 rfl ⟨leb rfl, leb rfl⟩ ⟨rfl, rfl⟩ rfl ⟨_, rfl, rfl⟩ (Fit.mk rfl rfl rfl) rfl (leb rfl) (ROsub.nil rfl rfl) rfl ?_
  change GG _ _ _ _ _ _ _ _ _ (w_X7_givingAt c_all_askers c_all_places c_all_seatBits c_all_entries c_board_askers c_board_places c_row c_all_best c_all_clipAll c_all_clipToOne c_all_clipToTwo c_all_firstOf c_all_gains c_all_left c_all_next c_all_slots c_all_solvedGains c_all_ways c_board_seats c_board_wishes u_above u_below u_board_age) [some (.ref 0), some (.long a1), none, some (.int a3)] [.int r1]
  refine G_if_eq 26 dX7_givingAt_8 (by decide) (fun h3 => ?_) (fun h3 => ?_)
  · replace hf := ob_t h3 hf
    refine G_bipush (-2 : Int32) dX7_givingAt_26 (by decide) ?_
    obtain rfl := os hf
    exact G_ireturn dX7_givingAt_28 rfl
  · replace hf := ob_f h3 hf
    refine G_lload_n dX7_givingAt_11 rfl rfl ?_
    refine G_lconst 0 dX7_givingAt_12 (by decide) ?_
    refine G_lcmp_lt 26 dX7_givingAt_13 dX7_givingAt_14 (by decide) (fun h4 => ?_) (fun h4 => ?_)
    · replace hf := ob_t h4 hf
      refine G_bipush (-2 : Int32) dX7_givingAt_26 (by decide) ?_
      obtain rfl := os hf
      exact G_ireturn dX7_givingAt_28 rfl
    · replace hf := ob_f h4 hf
      refine G_lload_n dX7_givingAt_17 rfl rfl ?_
      refine G_aload_n dX7_givingAt_18 rfl rfl ?_
      obtain ⟨⟨r5, o6, o7, o8, o9, o10, o11, o12, o13, o14, o15, o16, o17, o18, o19, o20⟩, hc21, hf⟩ := ob hf
      refine G_callV (μ2 := mu_X7_givings) (As := []) (w2 := (w_X7_givingAt o6 o7 o8 o9 c_board_askers c_board_places c_row o10 o11 o12 o13 o14 o15 o16 o17 o18 o19 o20 c_board_seats c_board_wishes u_above u_below u_board_age)) (wc := (w_X7_givings c_all_askers c_all_places c_all_seatBits c_all_entries c_board_askers c_board_places c_all_best c_all_clipAll c_all_clipToOne c_all_clipToTwo c_all_firstOf c_all_gains c_all_left c_all_next c_all_slots c_all_solvedGains c_all_ways c_board_seats c_board_wishes u_above u_below u_board_age)) (wc2 := (w_X7_givings o6 o7 o8 o9 c_board_askers c_board_places o10 o11 o12 o13 o14 o15 o16 o17 o18 o19 o20 c_board_seats c_board_wishes u_above u_below u_board_age)) (rest := [.long a1]) (rv := [.long r5]) [0, 1, 2, 4, 5, 6, 7, 8, 9, 10, 11, 12, 13, 14, 15, 16] [1000, 1001, 1002, 1003, 1004, 1005, 1006, 3, 1007, 1008] [3] [1, 2, 3, 0, 4, 5, 6, 7, 8, 9, 10, 11, 12, 13, 14, 15, 16] (c_X7_givings hc21) cw_X7_givings m_X7_127 dX7_givingAt_19 rfl ⟨leb rfl, leb rfl⟩ ⟨rfl, rfl⟩ rfl ⟨_, rfl, rfl⟩ (Fit.mk rfl rfl rfl) rfl (leb rfl) (ROsub.nil rfl rfl) rfl ?_
      change GG _ _ _ _ _ _ _ _ _ (w_X7_givingAt o6 o7 o8 o9 c_board_askers c_board_places c_row o10 o11 o12 o13 o14 o15 o16 o17 o18 o19 o20 c_board_seats c_board_wishes u_above u_below u_board_age) [some (.ref 0), some (.long a1), none, some (.int a3)] [.long r5, .long a1]
      refine G_lcmp_lt 29 dX7_givingAt_22 dX7_givingAt_23 (by decide) (fun h22 => ?_) (fun h22 => ?_)
      · replace hf := ob_t h22 hf
        refine G_aload_n dX7_givingAt_29 rfl rfl ?_
        refine G_get (v := .ref 1) F_X7_21 dX7_givingAt_30 rfl rfl ?_
        refine G_lload_n dX7_givingAt_33 rfl rfl ?_
        refine G_l2i dX7_givingAt_34 ?_
        refine G_aload_n dX7_givingAt_35 rfl rfl ?_
        refine G_get (v := .ref 3) F_X7_68 dX7_givingAt_36 rfl rfl ?_
        obtain ⟨o23, hc24, hf⟩ := ob hf
        refine G_callV (μ2 := mu_X4_pathTo) (As := [.int a1.toInt32, .ref 1]) (w2 := (w_X7_givingAt o6 o7 o8 o9 c_board_askers c_board_places o23 o10 o11 o12 o13 o14 o15 o16 o17 o18 o19 o20 c_board_seats c_board_wishes u_above u_below u_board_age)) (wc := (w_X4_pathTo o6 o7 c_row o10 o17 o19 o20 o8 o9)) (wc2 := (w_X4_pathTo o6 o7 o23 o10 o17 o19 o20 o8 o9)) (rest := []) (rv := []) [1, 3, 4, 11, 13, 14] [2, 9, 10, 8, 12, 5, 6, 7] [0, 2, 5, 6, 7, 8, 9, 10, 12, 15, 16] [0, 11, 1, 12, 13, 2, 3, 4, 5, 6, 7, 14, 8, 15, 16, 9, 10] (c_X4_pathTo hc24) cw_X4_pathTo m_X7_131 dX7_givingAt_39 rfl ⟨leb rfl, leb rfl⟩ ⟨rfl, rfl⟩ rfl ⟨_, rfl, rfl⟩ (Fit.mk rfl rfl rfl) rfl (leb rfl) (ROsub.nil rfl rfl) rfl ?_
        change GG _ _ _ _ _ _ _ _ _ (w_X7_givingAt o6 o7 o8 o9 c_board_askers c_board_places o23 o10 o11 o12 o13 o14 o15 o16 o17 o18 o19 o20 c_board_seats c_board_wishes u_above u_below u_board_age) [some (.ref 0), some (.long a1), none, some (.int a3)] []
        refine G_aload_n dX7_givingAt_42 rfl rfl ?_
        refine G_get (v := .ref 3) F_X7_68 dX7_givingAt_43 rfl rfl ?_
        refine G_iload_n dX7_givingAt_46 rfl rfl ?_
        obtain ⟨t25, ht25, hf⟩ := ob hf
        refine G_iald dX7_givingAt_47 rfl ht25 ?_
        obtain rfl := os hf
        exact G_ireturn dX7_givingAt_48 rfl
      · replace hf := ob_f h22 hf
        refine G_bipush (-2 : Int32) dX7_givingAt_26 (by decide) ?_
        obtain rfl := os hf
        exact G_ireturn dX7_givingAt_28 rfl
set_option maxRecDepth 20000 in
theorem dX7_isTold_0 : decode cX7_isTold 0 = .ok (.iload_n 0, 1) := by decide +kernel
set_option maxRecDepth 20000 in
theorem dX7_isTold_1 : decode cX7_isTold 1 = .ok (.ifCond .lt 12, 3) := by decide +kernel
set_option maxRecDepth 20000 in
theorem dX7_isTold_4 : decode cX7_isTold 4 = .ok (.iload_n 0, 1) := by decide +kernel
set_option maxRecDepth 20000 in
theorem dX7_isTold_5 : decode cX7_isTold 5 = .ok (.iconst 4, 1) := by decide +kernel
set_option maxRecDepth 20000 in
theorem dX7_isTold_6 : decode cX7_isTold 6 = .ok (.if_icmp .ge 7, 3) := by decide +kernel
set_option maxRecDepth 20000 in
theorem dX7_isTold_9 : decode cX7_isTold 9 = .ok (.iconst 1, 1) := by decide +kernel
set_option maxRecDepth 20000 in
theorem dX7_isTold_10 : decode cX7_isTold 10 = .ok (.goto 4, 3) := by decide +kernel
set_option maxRecDepth 20000 in
theorem dX7_isTold_13 : decode cX7_isTold 13 = .ok (.iconst 0, 1) := by decide +kernel
set_option maxRecDepth 20000 in
theorem dX7_isTold_14 : decode cX7_isTold 14 = .ok (.ireturn, 1) := by decide +kernel
def f_X7_isTold (N : Nat)  (a0 : Int32) : Option (Int32) :=
  (if a0 < 0 then
    some 0
  else
    (if 4 ≤ a0 then
      some 0
    else
      some 1))
set_option maxHeartbeats 4000000 in
set_option maxRecDepth 100000 in
theorem c_X7_isTold {N : Nat}    {a0 : Int32} {res : Int32} (hf : f_X7_isTold N a0 = some res) : Con mu_X7_isTold [.int a0] [] (some (.int res)) [] := by
  refine Con.mk (show plainName RX7 = true by decide +kernel) (leb rfl) (fun κ ω A ad => ?_)
  change GG mu_X7_isTold κ ω A (QR κ ω A ad (some (.int res)) []) ad 0 0 0 [] [some (.int a0)] []
  refine G_iload_n dX7_isTold_0 rfl rfl ?_
  refine G_if_lt 13 dX7_isTold_1 (by decide) (fun h1 => ?_) (fun h1 => ?_)
  · replace hf := ob_t h1 hf
    refine G_iconst 0 dX7_isTold_13 (by decide) ?_
    obtain rfl := os hf
    exact G_zreturn dX7_isTold_14 rfl z_0
  · replace hf := ob_f h1 hf
    refine G_iload_n dX7_isTold_4 rfl rfl ?_
    refine G_iconst 4 dX7_isTold_5 (by decide) ?_
    refine G_icmp_ge 13 dX7_isTold_6 (by decide) (fun h2 => ?_) (fun h2 => ?_)
    · replace hf := ob_t h2 hf
      refine G_iconst 0 dX7_isTold_13 (by decide) ?_
      obtain rfl := os hf
      exact G_zreturn dX7_isTold_14 rfl z_0
    · replace hf := ob_f h2 hf
      refine G_iconst 1 dX7_isTold_9 (by decide) ?_
      refine G_goto 14 dX7_isTold_10 (by decide) ?_
      obtain rfl := os hf
      exact G_zreturn dX7_isTold_14 rfl z_1
set_option maxRecDepth 20000 in
theorem dX7_isFree_0 : decode cX7_isFree 0 = .ok (.aload_n 0, 1) := by decide +kernel
set_option maxRecDepth 20000 in
theorem dX7_isFree_1 : decode cX7_isFree 1 = .ok (.getfield 10, 3) := by decide +kernel
set_option maxRecDepth 20000 in
theorem dX7_isFree_4 : decode cX7_isFree 4 = .ok (.iload_n 2, 1) := by decide +kernel
set_option maxRecDepth 20000 in
theorem dX7_isFree_5 : decode cX7_isFree 5 = .ok (.iload_n 3, 1) := by decide +kernel
set_option maxRecDepth 20000 in
theorem dX7_isFree_6 : decode cX7_isFree 6 = .ok (.invokevirtual 264, 3) := by decide +kernel
set_option maxRecDepth 20000 in
theorem dX7_isFree_9 : decode cX7_isFree 9 = .ok (.ifCond .le 29, 3) := by decide +kernel
set_option maxRecDepth 20000 in
theorem dX7_isFree_12 : decode cX7_isFree 12 = .ok (.aload_n 0, 1) := by decide +kernel
set_option maxRecDepth 20000 in
theorem dX7_isFree_13 : decode cX7_isFree 13 = .ok (.getfield 10, 3) := by decide +kernel
set_option maxRecDepth 20000 in
theorem dX7_isFree_16 : decode cX7_isFree 16 = .ok (.iload_n 1, 1) := by decide +kernel
set_option maxRecDepth 20000 in
theorem dX7_isFree_17 : decode cX7_isFree 17 = .ok (.iload_n 3, 1) := by decide +kernel
set_option maxRecDepth 20000 in
theorem dX7_isFree_18 : decode cX7_isFree 18 = .ok (.iload_n 2, 1) := by decide +kernel
set_option maxRecDepth 20000 in
theorem dX7_isFree_19 : decode cX7_isFree 19 = .ok (.invokevirtual 101, 3) := by decide +kernel
set_option maxRecDepth 20000 in
theorem dX7_isFree_22 : decode cX7_isFree 22 = .ok (.aload_n 0, 1) := by decide +kernel
set_option maxRecDepth 20000 in
theorem dX7_isFree_23 : decode cX7_isFree 23 = .ok (.getfield 10, 3) := by decide +kernel
set_option maxRecDepth 20000 in
theorem dX7_isFree_26 : decode cX7_isFree 26 = .ok (.getfield 267, 3) := by decide +kernel
set_option maxRecDepth 20000 in
theorem dX7_isFree_29 : decode cX7_isFree 29 = .ok (.iload_n 3, 1) := by decide +kernel
set_option maxRecDepth 20000 in
theorem dX7_isFree_30 : decode cX7_isFree 30 = .ok (.iaload, 1) := by decide +kernel
set_option maxRecDepth 20000 in
theorem dX7_isFree_31 : decode cX7_isFree 31 = .ok (.if_icmp .ge 7, 3) := by decide +kernel
set_option maxRecDepth 20000 in
theorem dX7_isFree_34 : decode cX7_isFree 34 = .ok (.iconst 1, 1) := by decide +kernel
set_option maxRecDepth 20000 in
theorem dX7_isFree_35 : decode cX7_isFree 35 = .ok (.goto 4, 3) := by decide +kernel
set_option maxRecDepth 20000 in
theorem dX7_isFree_38 : decode cX7_isFree 38 = .ok (.iconst 0, 1) := by decide +kernel
set_option maxRecDepth 20000 in
theorem dX7_isFree_39 : decode cX7_isFree 39 = .ok (.ireturn, 1) := by decide +kernel
def f_X7_isFree (N : Nat) (c_board_askers : Int32) (c_board_seats : Nat → Int32) (c_board_told : Nat → Int32) (c_board_wishes : Nat → Int32) (a1 : Int32) (a2 : Int32) (a3 : Int32) : Option (Int32) :=
  (f_X0_wishOf N c_board_wishes a2 a3).bind fun r1 =>
  (if r1 ≤ 0 then
    some 0
  else
    (f_X0_holders N c_board_askers c_board_told a1 a3 a2).bind fun r4 =>
    (rdI 6 c_board_seats a3).bind fun t6 =>
    (if t6 ≤ r4 then
      some 0
    else
      some 1))
set_option maxHeartbeats 4000000 in
set_option maxRecDepth 100000 in
theorem c_X7_isFree {N : Nat} {c_board_askers : Int32} {c_board_seats : Nat → Int32} {c_board_told : Nat → Int32} {c_board_wishes : Nat → Int32}  {u_above : Int64} {u_below : Int64} {u_board_places : Int32} {u_board_age : Int32} {a1 : Int32} {a2 : Int32} {a3 : Int32} {res : Int32} (hf : f_X7_isFree N c_board_askers c_board_seats c_board_told c_board_wishes a1 a2 a3 = some res) : Con mu_X7_isFree [.ref 0, .int a1, .int a2, .int a3] (w_X7_isFree c_board_askers c_board_seats c_board_told c_board_wishes u_above u_below u_board_places u_board_age) (some (.int res)) (w_X7_isFree c_board_askers c_board_seats c_board_told c_board_wishes u_above u_below u_board_places u_board_age) := by
  refine Con.mk (show plainName RX7 = true by decide +kernel) (leb rfl) (fun κ ω A ad => ?_)
  change GG mu_X7_isFree κ ω A (QR κ ω A ad (some (.int res)) (w_X7_isFree c_board_askers c_board_seats c_board_told c_board_wishes u_above u_below u_board_places u_board_age)) ad 0 0 0 (w_X7_isFree c_board_askers c_board_seats c_board_told c_board_wishes u_above u_below u_board_places u_board_age) [some (.ref 0), some (.int a1), some (.int a2), some (.int a3)] []
  refine G_aload_n dX7_isFree_0 rfl rfl ?_
  refine G_get (v := .ref 1) F_X7_10 dX7_isFree_1 rfl rfl ?_
  refine G_iload_n dX7_isFree_4 rfl rfl ?_
  refine G_iload_n dX7_isFree_5 rfl rfl ?_
  obtain ⟨r1, hc2, hf⟩ := ob hf
  refine G_callV (μ2 := mu_X0_wishOf) (As := [.int a2, .int a3]) (w2 := (w_X7_isFree c_board_askers c_board_seats c_board_told c_board_wishes u_above u_below u_board_places u_board_age)) (wc := (w_X0_wishOf c_board_wishes c_board_askers u_board_places u_board_age)) (wc2 := (w_X0_wishOf c_board_wishes c_board_askers u_board_places u_board_age)) (rest := []) (rv := [.int r1]) [1, 4] [2, 1009, 3] [0, 2, 3] [0, 3, 1, 2, 4] (c_X0_wishOf hc2) cw_X0_wishOf m_X7_264 dX7_isFree_6 rfl ⟨leb rfl, leb rfl⟩ ⟨rfl, rfl⟩ rfl ⟨_, rfl, rfl⟩ (Fit.mk rfl rfl rfl) rfl (leb rfl) (ROsub.nil rfl rfl) rfl ?_
  change GG _ _ _ _ _ _ _ _ _ (w_X7_isFree c_board_askers c_board_seats c_board_told c_board_wishes u_above u_below u_board_places u_board_age) [some (.ref 0), some (.int a1), some (.int a2), some (.int a3)] [.int r1]
  refine G_if_le 38 dX7_isFree_9 (by decide) (fun h3 => ?_) (fun h3 => ?_)
  · replace hf := ob_t h3 hf
    refine G_iconst 0 dX7_isFree_38 (by decide) ?_
    obtain rfl := os hf
    exact G_zreturn dX7_isFree_39 rfl z_0
  · replace hf := ob_f h3 hf
    refine G_aload_n dX7_isFree_12 rfl rfl ?_
    refine G_get (v := .ref 1) F_X7_10 dX7_isFree_13 rfl rfl ?_
    refine G_iload_n dX7_isFree_16 rfl rfl ?_
    refine G_iload_n dX7_isFree_17 rfl rfl ?_
    refine G_iload_n dX7_isFree_18 rfl rfl ?_
    obtain ⟨r4, hc5, hf⟩ := ob hf
    refine G_callV (μ2 := mu_X0_holders) (As := [.int a1, .int a3, .int a2]) (w2 := (w_X7_isFree c_board_askers c_board_seats c_board_told c_board_wishes u_above u_below u_board_places u_board_age)) (wc := (w_X0_holders c_board_askers c_board_told u_board_places u_board_age)) (wc2 := (w_X0_holders c_board_askers c_board_told u_board_places u_board_age)) (rest := []) (rv := [.int r4]) [1, 3] [2, 4, 1009] [0, 2, 4] [0, 3, 1, 4, 2] (c_X0_holders hc5) cw_X0_holders m_X7_101 dX7_isFree_19 rfl ⟨leb rfl, leb rfl⟩ ⟨rfl, rfl⟩ rfl ⟨_, rfl, rfl⟩ (Fit.mk rfl rfl rfl) rfl (leb rfl) (ROsub.nil rfl rfl) rfl ?_
    change GG _ _ _ _ _ _ _ _ _ (w_X7_isFree c_board_askers c_board_seats c_board_told c_board_wishes u_above u_below u_board_places u_board_age) [some (.ref 0), some (.int a1), some (.int a2), some (.int a3)] [.int r4]
    refine G_aload_n dX7_isFree_22 rfl rfl ?_
    refine G_get (v := .ref 1) F_X7_10 dX7_isFree_23 rfl rfl ?_
    refine G_get (v := .ref 2) F_X7_267 dX7_isFree_26 rfl rfl ?_
    refine G_iload_n dX7_isFree_29 rfl rfl ?_
    obtain ⟨t6, ht6, hf⟩ := ob hf
    refine G_iald dX7_isFree_30 rfl ht6 ?_
    refine G_icmp_ge 38 dX7_isFree_31 (by decide) (fun h7 => ?_) (fun h7 => ?_)
    · replace hf := ob_t h7 hf
      refine G_iconst 0 dX7_isFree_38 (by decide) ?_
      obtain rfl := os hf
      exact G_zreturn dX7_isFree_39 rfl z_0
    · replace hf := ob_f h7 hf
      refine G_iconst 1 dX7_isFree_34 (by decide) ?_
      refine G_goto 39 dX7_isFree_35 (by decide) ?_
      obtain rfl := os hf
      exact G_zreturn dX7_isFree_39 rfl z_1
set_option maxRecDepth 20000 in
theorem dX7_give_0 : decode cX7_give 0 = .ok (.iload_n 1, 1) := by decide +kernel
set_option maxRecDepth 20000 in
theorem dX7_give_1 : decode cX7_give 1 = .ok (.invokestatic 135, 3) := by decide +kernel
set_option maxRecDepth 20000 in
theorem dX7_give_4 : decode cX7_give 4 = .ok (.ifCond .eq 22, 3) := by decide +kernel
set_option maxRecDepth 20000 in
theorem dX7_give_7 : decode cX7_give 7 = .ok (.aload_n 0, 1) := by decide +kernel
set_option maxRecDepth 20000 in
theorem dX7_give_8 : decode cX7_give 8 = .ok (.getfield 10, 3) := by decide +kernel
set_option maxRecDepth 20000 in
theorem dX7_give_11 : decode cX7_give 11 = .ok (.iload_n 2, 1) := by decide +kernel
set_option maxRecDepth 20000 in
theorem dX7_give_12 : decode cX7_give 12 = .ok (.invokevirtual 109, 3) := by decide +kernel
set_option maxRecDepth 20000 in
theorem dX7_give_15 : decode cX7_give 15 = .ok (.ifCond .eq 11, 3) := by decide +kernel
set_option maxRecDepth 20000 in
theorem dX7_give_18 : decode cX7_give 18 = .ok (.aload_n 0, 1) := by decide +kernel
set_option maxRecDepth 20000 in
theorem dX7_give_19 : decode cX7_give 19 = .ok (.iload_n 3, 1) := by decide +kernel
set_option maxRecDepth 20000 in
theorem dX7_give_20 : decode cX7_give 20 = .ok (.invokevirtual 115, 3) := by decide +kernel
set_option maxRecDepth 20000 in
theorem dX7_give_23 : decode cX7_give 23 = .ok (.ifCond .ne 6, 3) := by decide +kernel
set_option maxRecDepth 20000 in
theorem dX7_give_26 : decode cX7_give 26 = .ok (.bipush (-2), 2) := by decide +kernel
set_option maxRecDepth 20000 in
theorem dX7_give_28 : decode cX7_give 28 = .ok (.ireturn, 1) := by decide +kernel
set_option maxRecDepth 20000 in
theorem dX7_give_29 : decode cX7_give 29 = .ok (.iload_n 3, 1) := by decide +kernel
set_option maxRecDepth 20000 in
theorem dX7_give_30 : decode cX7_give 30 = .ok (.iconst (-1), 1) := by decide +kernel
set_option maxRecDepth 20000 in
theorem dX7_give_31 : decode cX7_give 31 = .ok (.if_icmp .eq 16, 3) := by decide +kernel
set_option maxRecDepth 20000 in
theorem dX7_give_34 : decode cX7_give 34 = .ok (.aload_n 0, 1) := by decide +kernel
set_option maxRecDepth 20000 in
theorem dX7_give_35 : decode cX7_give 35 = .ok (.iload_n 1, 1) := by decide +kernel
set_option maxRecDepth 20000 in
theorem dX7_give_36 : decode cX7_give 36 = .ok (.iload_n 2, 1) := by decide +kernel
set_option maxRecDepth 20000 in
theorem dX7_give_37 : decode cX7_give 37 = .ok (.iload_n 3, 1) := by decide +kernel
set_option maxRecDepth 20000 in
theorem dX7_give_38 : decode cX7_give 38 = .ok (.invokevirtual 138, 3) := by decide +kernel
set_option maxRecDepth 20000 in
theorem dX7_give_41 : decode cX7_give 41 = .ok (.ifCond .ne 6, 3) := by decide +kernel
set_option maxRecDepth 20000 in
theorem dX7_give_44 : decode cX7_give 44 = .ok (.bipush (-3), 2) := by decide +kernel
set_option maxRecDepth 20000 in
theorem dX7_give_46 : decode cX7_give 46 = .ok (.ireturn, 1) := by decide +kernel
set_option maxRecDepth 20000 in
theorem dX7_give_47 : decode cX7_give 47 = .ok (.aload_n 0, 1) := by decide +kernel
set_option maxRecDepth 20000 in
theorem dX7_give_48 : decode cX7_give 48 = .ok (.getfield 10, 3) := by decide +kernel
set_option maxRecDepth 20000 in
theorem dX7_give_51 : decode cX7_give 51 = .ok (.iload_n 1, 1) := by decide +kernel
set_option maxRecDepth 20000 in
theorem dX7_give_52 : decode cX7_give 52 = .ok (.iload_n 2, 1) := by decide +kernel
set_option maxRecDepth 20000 in
theorem dX7_give_53 : decode cX7_give 53 = .ok (.iload_n 3, 1) := by decide +kernel
set_option maxRecDepth 20000 in
theorem dX7_give_54 : decode cX7_give 54 = .ok (.invokevirtual 142, 3) := by decide +kernel
set_option maxRecDepth 20000 in
theorem dX7_give_57 : decode cX7_give 57 = .ok (.iconst 1, 1) := by decide +kernel
set_option maxRecDepth 20000 in
theorem dX7_give_58 : decode cX7_give 58 = .ok (.ireturn, 1) := by decide +kernel
def f_X7_give_47 (N : Nat) (c_board_askers : Int32) (c_board_places : Int32) (c_board_seats : Nat → Int32) (c_board_wishes : Nat → Int32) (c_board_told : Nat → Int32) (v1 : Int32) (v2 : Int32) (v3 : Int32) : Option (Int32 × (Nat → Int32)) :=
    (f_X0_tell N c_board_told v1 v2 v3).bind fun o1 =>
    some (1, o1)
set_option maxHeartbeats 4000000 in
set_option maxRecDepth 100000 in
theorem g_X7_give_47 {κ : KC} {ω : KW} {A : Nat → Prop} {ad : Nat → Nat} {u_above : Int64} {u_below : Int64} {u_board_age : Int32} {N : Nat} {c_board_askers : Int32} {c_board_places : Int32} {c_board_seats : Nat → Int32} {c_board_wishes : Nat → Int32}  {res : Int32 × (Nat → Int32)} {c_board_told : Nat → Int32} {v1 : Int32} {v2 : Int32} {v3 : Int32} (hf : f_X7_give_47 N c_board_askers c_board_places c_board_seats c_board_wishes c_board_told v1 v2 v3 = some res) : GG mu_X7_give κ ω A (QR κ ω A ad (some (.int res.1)) (w_X7_give c_board_askers c_board_places c_board_seats res.2 c_board_wishes u_above u_below u_board_age)) ad 0 0 47 (w_X7_give c_board_askers c_board_places c_board_seats c_board_told c_board_wishes u_above u_below u_board_age) [some (.ref 0), some (.int v1), some (.int v2), some (.int v3)] [] := by
  refine G_aload_n dX7_give_47 rfl rfl ?_
  refine G_get (v := .ref 1) F_X7_10 dX7_give_48 rfl rfl ?_
  refine G_iload_n dX7_give_51 rfl rfl ?_
  refine G_iload_n dX7_give_52 rfl rfl ?_
  refine G_iload_n dX7_give_53 rfl rfl ?_
  obtain ⟨o1, hc2, hf⟩ := ob hf
  refine G_callV (μ2 := mu_X0_tell) (As := [.int v1, .int v2, .int v3]) (w2 := (w_X7_give c_board_askers c_board_places c_board_seats o1 c_board_wishes u_above u_below u_board_age)) (wc := (w_X0_tell c_board_told c_board_askers c_board_places u_board_age)) (wc2 := (w_X0_tell o1 c_board_askers c_board_places u_board_age)) (rest := []) (rv := []) [1, 3] [2, 4, 1009] [0, 2, 4] [0, 3, 1, 4, 2] (c_X0_tell hc2) cw_X0_tell m_X7_142 dX7_give_54 rfl ⟨leb rfl, leb rfl⟩ ⟨rfl, rfl⟩ rfl ⟨_, rfl, rfl⟩ (Fit.mk rfl rfl rfl) rfl (leb rfl) (ROsub.nil rfl rfl) rfl ?_
  change GG _ _ _ _ _ _ _ _ _ (w_X7_give c_board_askers c_board_places c_board_seats o1 c_board_wishes u_above u_below u_board_age) [some (.ref 0), some (.int v1), some (.int v2), some (.int v3)] []
  refine G_iconst 1 dX7_give_57 (by decide) ?_
  obtain rfl := os hf
  exact G_ireturn dX7_give_58 rfl
def f_X7_give (N : Nat) (c_board_askers : Int32) (c_board_places : Int32) (c_board_seats : Nat → Int32) (c_board_wishes : Nat → Int32) (c_board_told : Nat → Int32) (a1 : Int32) (a2 : Int32) (a3 : Int32) : Option (Int32 × (Nat → Int32)) :=
  (f_X7_isTold N a1).bind fun r1 =>
  (if r1 = 0 then
    some ((-2 : Int32), c_board_told)
  else
    (f_X0_isAsker N c_board_askers a2).bind fun r4 =>
    (if r4 = 0 then
      some ((-2 : Int32), c_board_told)
    else
      (f_X7_isPlaceOrNone N c_board_places a3).bind fun r7 =>
      (if r7 = 0 then
        some ((-2 : Int32), c_board_told)
      else
        (if a3 = (-1 : Int32) then
          f_X7_give_47 N c_board_askers c_board_places c_board_seats c_board_wishes c_board_told a1 a2 a3
        else
          (f_X7_isFree N c_board_askers c_board_seats c_board_told c_board_wishes a1 a2 a3).bind fun r11 =>
          (if r11 = 0 then
            some ((-3 : Int32), c_board_told)
          else
            f_X7_give_47 N c_board_askers c_board_places c_board_seats c_board_wishes c_board_told a1 a2 a3)))))
set_option maxHeartbeats 4000000 in
set_option maxRecDepth 100000 in
theorem c_X7_give {N : Nat} {c_board_askers : Int32} {c_board_places : Int32} {c_board_seats : Nat → Int32} {c_board_wishes : Nat → Int32} {c_board_told : Nat → Int32} {u_above : Int64} {u_below : Int64} {u_board_age : Int32} {a1 : Int32} {a2 : Int32} {a3 : Int32} {res : Int32 × (Nat → Int32)} (hf : f_X7_give N c_board_askers c_board_places c_board_seats c_board_wishes c_board_told a1 a2 a3 = some res) : Con mu_X7_give [.ref 0, .int a1, .int a2, .int a3] (w_X7_give c_board_askers c_board_places c_board_seats c_board_told c_board_wishes u_above u_below u_board_age) (some (.int res.1)) (w_X7_give c_board_askers c_board_places c_board_seats res.2 c_board_wishes u_above u_below u_board_age) := by
  refine Con.mk (show plainName RX7 = true by decide +kernel) (leb rfl) (fun κ ω A ad => ?_)
  change GG mu_X7_give κ ω A (QR κ ω A ad (some (.int res.1)) (w_X7_give c_board_askers c_board_places c_board_seats res.2 c_board_wishes u_above u_below u_board_age)) ad 0 0 0 (w_X7_give c_board_askers c_board_places c_board_seats c_board_told c_board_wishes u_above u_below u_board_age) [some (.ref 0), some (.int a1), some (.int a2), some (.int a3)] []
  refine G_iload_n dX7_give_0 rfl rfl ?_
  obtain ⟨r1, hc2, hf⟩ := ob hf
  refine G_callS (μ2 := mu_X7_isTold) (As := [.int a1]) (w2 := (w_X7_give c_board_askers c_board_places c_board_seats c_board_told c_board_wishes u_above u_below u_board_age)) (wc := []) (wc2 := []) (rest := []) (rv := [.int r1]) [] [] [0, 1, 2, 3, 4] [0, 1, 2, 3, 4] (c_X7_isTold hc2) cw_X7_isTold m_X7_135 rfl dX7_give_1 rfl ⟨leb rfl, leb rfl⟩ ⟨rfl, rfl⟩ (Fit.mk rfl rfl rfl) rfl (leb rfl) (ROsub.nil rfl rfl) rfl ?_
  change GG _ _ _ _ _ _ _ _ _ (w_X7_give c_board_askers c_board_places c_board_seats c_board_told c_board_wishes u_above u_below u_board_age) [some (.ref 0), some (.int a1), some (.int a2), some (.int a3)] [.int r1]
  refine G_if_eq 26 dX7_give_4 (by decide) (fun h3 => ?_) (fun h3 => ?_)
  · replace hf := ob_t h3 hf
    refine G_bipush (-2 : Int32) dX7_give_26 (by decide) ?_
    obtain rfl := os hf
    exact G_ireturn dX7_give_28 rfl
  · replace hf := ob_f h3 hf
    refine G_aload_n dX7_give_7 rfl rfl ?_
    refine G_get (v := .ref 1) F_X7_10 dX7_give_8 rfl rfl ?_
    refine G_iload_n dX7_give_11 rfl rfl ?_
    obtain ⟨r4, hc5, hf⟩ := ob hf
    refine G_callV (μ2 := mu_X0_isAsker) (As := [.int a2]) (w2 := (w_X7_give c_board_askers c_board_places c_board_seats c_board_told c_board_wishes u_above u_below u_board_age)) (wc := (w_X0_isAsker c_board_askers c_board_places u_board_age)) (wc2 := (w_X0_isAsker c_board_askers c_board_places u_board_age)) (rest := []) (rv := [.int r4]) [1] [2, 4, 1009, 3] [0, 2, 3, 4] [0, 4, 1, 2, 3] (c_X0_isAsker hc5) cw_X0_isAsker m_X7_109 dX7_give_12 rfl ⟨leb rfl, leb rfl⟩ ⟨rfl, rfl⟩ rfl ⟨_, rfl, rfl⟩ (Fit.mk rfl rfl rfl) rfl (leb rfl) (ROsub.nil rfl rfl) rfl ?_
    change GG _ _ _ _ _ _ _ _ _ (w_X7_give c_board_askers c_board_places c_board_seats c_board_told c_board_wishes u_above u_below u_board_age) [some (.ref 0), some (.int a1), some (.int a2), some (.int a3)] [.int r4]
    refine G_if_eq 26 dX7_give_15 (by decide) (fun h6 => ?_) (fun h6 => ?_)
    · replace hf := ob_t h6 hf
      refine G_bipush (-2 : Int32) dX7_give_26 (by decide) ?_
      obtain rfl := os hf
      exact G_ireturn dX7_give_28 rfl
    · replace hf := ob_f h6 hf
      refine G_aload_n dX7_give_18 rfl rfl ?_
      refine G_iload_n dX7_give_19 rfl rfl ?_
      obtain ⟨r7, hc8, hf⟩ := ob hf
      refine G_callV (μ2 := mu_X7_isPlaceOrNone) (As := [.int a3]) (w2 := (w_X7_give c_board_askers c_board_places c_board_seats c_board_told c_board_wishes u_above u_below u_board_age)) (wc := (w_X7_isPlaceOrNone c_board_places u_above u_below c_board_askers u_board_age)) (wc2 := (w_X7_isPlaceOrNone c_board_places u_above u_below c_board_askers u_board_age)) (rest := []) (rv := [.int r7]) [0, 1] [1000, 1001, 1002, 1003, 1004, 1005, 1006, 1007, 1008, 2, 4, 1009, 3] [2, 3, 4] [3, 4, 0, 1, 2] (c_X7_isPlaceOrNone hc8) cw_X7_isPlaceOrNone m_X7_115 dX7_give_20 rfl ⟨leb rfl, leb rfl⟩ ⟨rfl, rfl⟩ rfl ⟨_, rfl, rfl⟩ (Fit.mk rfl rfl rfl) rfl (leb rfl) (ROsub.nil rfl rfl) rfl ?_
      change GG _ _ _ _ _ _ _ _ _ (w_X7_give c_board_askers c_board_places c_board_seats c_board_told c_board_wishes u_above u_below u_board_age) [some (.ref 0), some (.int a1), some (.int a2), some (.int a3)] [.int r7]
      refine G_if_ne 29 dX7_give_23 (by decide) (fun h9 => ?_) (fun h9 => ?_)
      · replace hf := ob_f h9 hf
        refine G_iload_n dX7_give_29 rfl rfl ?_
        refine G_iconst (-1 : Int32) dX7_give_30 (by decide) ?_
        refine G_icmp_eq 47 dX7_give_31 (by decide) (fun h10 => ?_) (fun h10 => ?_)
        · replace hf := ob_t h10 hf
          exact g_X7_give_47 hf
        · replace hf := ob_f h10 hf
          refine G_aload_n dX7_give_34 rfl rfl ?_
          refine G_iload_n dX7_give_35 rfl rfl ?_
          refine G_iload_n dX7_give_36 rfl rfl ?_
          refine G_iload_n dX7_give_37 rfl rfl ?_
          obtain ⟨r11, hc12, hf⟩ := ob hf
          refine G_callV (μ2 := mu_X7_isFree) (As := [.int a1, .int a2, .int a3]) (w2 := (w_X7_give c_board_askers c_board_places c_board_seats c_board_told c_board_wishes u_above u_below u_board_age)) (wc := (w_X7_isFree c_board_askers c_board_seats c_board_told c_board_wishes u_above u_below c_board_places u_board_age)) (wc2 := (w_X7_isFree c_board_askers c_board_seats c_board_told c_board_wishes u_above u_below c_board_places u_board_age)) (rest := []) (rv := [.int r11]) [0, 1, 2, 3, 4] [1000, 1001, 1002, 1003, 1004, 1005, 1006, 1007, 1008, 1009] [] [0, 1, 2, 3, 4] (c_X7_isFree hc12) cw_X7_isFree m_X7_138 dX7_give_38 rfl ⟨leb rfl, leb rfl⟩ ⟨rfl, rfl⟩ rfl ⟨_, rfl, rfl⟩ (Fit.mk rfl rfl rfl) rfl (leb rfl) (ROsub.nil rfl rfl) rfl ?_
          change GG _ _ _ _ _ _ _ _ _ (w_X7_give c_board_askers c_board_places c_board_seats c_board_told c_board_wishes u_above u_below u_board_age) [some (.ref 0), some (.int a1), some (.int a2), some (.int a3)] [.int r11]
          refine G_if_ne 47 dX7_give_41 (by decide) (fun h13 => ?_) (fun h13 => ?_)
          · replace hf := ob_f h13 hf
            exact g_X7_give_47 hf
          · replace hf := ob_t h13 hf
            refine G_bipush (-3 : Int32) dX7_give_44 (by decide) ?_
            obtain rfl := os hf
            exact G_ireturn dX7_give_46 rfl
      · replace hf := ob_t h9 hf
        refine G_bipush (-2 : Int32) dX7_give_26 (by decide) ?_
        obtain rfl := os hf
        exact G_ireturn dX7_give_28 rfl
set_option maxRecDepth 20000 in
theorem dX7_findByWorth_0 : decode cX7_findByWorth 0 = .ok (.iconst 0, 1) := by decide +kernel
set_option maxRecDepth 20000 in
theorem dX7_findByWorth_1 : decode cX7_findByWorth 1 = .ok (.istore_n 2, 1) := by decide +kernel
set_option maxRecDepth 20000 in
theorem dX7_findByWorth_2 : decode cX7_findByWorth 2 = .ok (.iload_n 2, 1) := by decide +kernel
set_option maxRecDepth 20000 in
theorem dX7_findByWorth_3 : decode cX7_findByWorth 3 = .ok (.aload_n 0, 1) := by decide +kernel
set_option maxRecDepth 20000 in
theorem dX7_findByWorth_4 : decode cX7_findByWorth 4 = .ok (.getfield 10, 3) := by decide +kernel
set_option maxRecDepth 20000 in
theorem dX7_findByWorth_7 : decode cX7_findByWorth 7 = .ok (.getfield 79, 3) := by decide +kernel
set_option maxRecDepth 20000 in
theorem dX7_findByWorth_10 : decode cX7_findByWorth 10 = .ok (.if_icmp .ge 65, 3) := by decide +kernel
set_option maxRecDepth 20000 in
theorem dX7_findByWorth_13 : decode cX7_findByWorth 13 = .ok (.iconst (-1), 1) := by decide +kernel
set_option maxRecDepth 20000 in
theorem dX7_findByWorth_14 : decode cX7_findByWorth 14 = .ok (.istore_n 3, 1) := by decide +kernel
set_option maxRecDepth 20000 in
theorem dX7_findByWorth_15 : decode cX7_findByWorth 15 = .ok (.iload_n 3, 1) := by decide +kernel
set_option maxRecDepth 20000 in
theorem dX7_findByWorth_16 : decode cX7_findByWorth 16 = .ok (.aload_n 0, 1) := by decide +kernel
set_option maxRecDepth 20000 in
theorem dX7_findByWorth_17 : decode cX7_findByWorth 17 = .ok (.getfield 10, 3) := by decide +kernel
set_option maxRecDepth 20000 in
theorem dX7_findByWorth_20 : decode cX7_findByWorth 20 = .ok (.getfield 91, 3) := by decide +kernel
set_option maxRecDepth 20000 in
theorem dX7_findByWorth_23 : decode cX7_findByWorth 23 = .ok (.if_icmp .ge 46, 3) := by decide +kernel
set_option maxRecDepth 20000 in
theorem dX7_findByWorth_26 : decode cX7_findByWorth 26 = .ok (.aload_n 0, 1) := by decide +kernel
set_option maxRecDepth 20000 in
theorem dX7_findByWorth_27 : decode cX7_findByWorth 27 = .ok (.getfield 28, 3) := by decide +kernel
set_option maxRecDepth 20000 in
theorem dX7_findByWorth_30 : decode cX7_findByWorth 30 = .ok (.iload_n 2, 1) := by decide +kernel
set_option maxRecDepth 20000 in
theorem dX7_findByWorth_31 : decode cX7_findByWorth 31 = .ok (.iload_n 3, 1) := by decide +kernel
set_option maxRecDepth 20000 in
theorem dX7_findByWorth_32 : decode cX7_findByWorth 32 = .ok (.aload_n 0, 1) := by decide +kernel
set_option maxRecDepth 20000 in
theorem dX7_findByWorth_33 : decode cX7_findByWorth 33 = .ok (.getfield 10, 3) := by decide +kernel
set_option maxRecDepth 20000 in
theorem dX7_findByWorth_36 : decode cX7_findByWorth 36 = .ok (.iload_n 2, 1) := by decide +kernel
set_option maxRecDepth 20000 in
theorem dX7_findByWorth_37 : decode cX7_findByWorth 37 = .ok (.iload_n 3, 1) := by decide +kernel
set_option maxRecDepth 20000 in
theorem dX7_findByWorth_38 : decode cX7_findByWorth 38 = .ok (.invokevirtual 292, 3) := by decide +kernel
set_option maxRecDepth 20000 in
theorem dX7_findByWorth_41 : decode cX7_findByWorth 41 = .ok (.ifCond .eq 17, 3) := by decide +kernel
set_option maxRecDepth 20000 in
theorem dX7_findByWorth_44 : decode cX7_findByWorth 44 = .ok (.aload_n 1, 1) := by decide +kernel
set_option maxRecDepth 20000 in
theorem dX7_findByWorth_45 : decode cX7_findByWorth 45 = .ok (.aload_n 0, 1) := by decide +kernel
set_option maxRecDepth 20000 in
theorem dX7_findByWorth_46 : decode cX7_findByWorth 46 = .ok (.getfield 10, 3) := by decide +kernel
set_option maxRecDepth 20000 in
theorem dX7_findByWorth_49 : decode cX7_findByWorth 49 = .ok (.iload_n 2, 1) := by decide +kernel
set_option maxRecDepth 20000 in
theorem dX7_findByWorth_50 : decode cX7_findByWorth 50 = .ok (.iload_n 3, 1) := by decide +kernel
set_option maxRecDepth 20000 in
theorem dX7_findByWorth_51 : decode cX7_findByWorth 51 = .ok (.invokevirtual 118, 3) := by decide +kernel
set_option maxRecDepth 20000 in
theorem dX7_findByWorth_54 : decode cX7_findByWorth 54 = .ok (.iaload, 1) := by decide +kernel
set_option maxRecDepth 20000 in
theorem dX7_findByWorth_55 : decode cX7_findByWorth 55 = .ok (.goto 5, 3) := by decide +kernel
set_option maxRecDepth 20000 in
theorem dX7_findByWorth_58 : decode cX7_findByWorth 58 = .ok (.ldc 193, 2) := by decide +kernel
set_option maxRecDepth 20000 in
theorem dX7_findByWorth_60 : decode cX7_findByWorth 60 = .ok (.invokevirtual 296, 3) := by decide +kernel
set_option maxRecDepth 20000 in
theorem dX7_findByWorth_63 : decode cX7_findByWorth 63 = .ok (.iinc 3 1, 3) := by decide +kernel
set_option maxRecDepth 20000 in
theorem dX7_findByWorth_66 : decode cX7_findByWorth 66 = .ok (.goto (-51), 3) := by decide +kernel
set_option maxRecDepth 20000 in
theorem dX7_findByWorth_69 : decode cX7_findByWorth 69 = .ok (.iinc 2 1, 3) := by decide +kernel
set_option maxRecDepth 20000 in
theorem dX7_findByWorth_72 : decode cX7_findByWorth 72 = .ok (.goto (-70), 3) := by decide +kernel
set_option maxRecDepth 20000 in
theorem dX7_findByWorth_75 : decode cX7_findByWorth 75 = .ok (.aload_n 0, 1) := by decide +kernel
set_option maxRecDepth 20000 in
theorem dX7_findByWorth_76 : decode cX7_findByWorth 76 = .ok (.getfield 28, 3) := by decide +kernel
set_option maxRecDepth 20000 in
theorem dX7_findByWorth_79 : decode cX7_findByWorth 79 = .ok (.invokevirtual 201, 3) := by decide +kernel
set_option maxRecDepth 20000 in
theorem dX7_findByWorth_82 : decode cX7_findByWorth 82 = .ok (.aload_n 0, 1) := by decide +kernel
set_option maxRecDepth 20000 in
theorem dX7_findByWorth_83 : decode cX7_findByWorth 83 = .ok (.getfield 28, 3) := by decide +kernel
set_option maxRecDepth 20000 in
theorem dX7_findByWorth_86 : decode cX7_findByWorth 86 = .ok (.iconst 0, 1) := by decide +kernel
set_option maxRecDepth 20000 in
theorem dX7_findByWorth_87 : decode cX7_findByWorth 87 = .ok (.aload_n 0, 1) := by decide +kernel
set_option maxRecDepth 20000 in
theorem dX7_findByWorth_88 : decode cX7_findByWorth 88 = .ok (.getfield 68, 3) := by decide +kernel
set_option maxRecDepth 20000 in
theorem dX7_findByWorth_91 : decode cX7_findByWorth 91 = .ok (.invokevirtual 131, 3) := by decide +kernel
set_option maxRecDepth 20000 in
theorem dX7_findByWorth_94 : decode cX7_findByWorth 94 = .ok (.return_, 1) := by decide +kernel
def f_X7_findByWorth_60 (N : Nat) (c_board_askers : Int32) (c_board_places : Int32) (c_board_seats : Nat → Int32) (c_board_wishes : Nat → Int32) (c_a1 : Nat → Int32) (k15 : Int32 → Int32 → Int32 → Int32 → (Nat → Int32) → (Nat → Int32) → (Nat → Int32) → (Nat → Int32) → (Nat → Int32) → (Nat → Int32) → (Nat → Int32) → (Nat → Int32) → (Nat → Int32) → (Nat → Int32) → (Nat → Int32) → (Nat → Int32) → Int32 → Int32 → Option (Int32 × Int32 × Int32 × Int32 × (Nat → Int32) × (Nat → Int32) × (Nat → Int32) × (Nat → Int32) × (Nat → Int32) × (Nat → Int32) × (Nat → Int32) × (Nat → Int32) × (Nat → Int32) × (Nat → Int32) × (Nat → Int32) × (Nat → Int32))) (c_aimed_askers : Int32) (c_aimed_places : Int32) (c_aimed_seatBits : Int32) (c_aimed_entries : Int32) (c_row : Nat → Int32) (c_aimed_best : Nat → Int32) (c_aimed_clipAll : Nat → Int32) (c_aimed_clipToOne : Nat → Int32) (c_aimed_clipToTwo : Nat → Int32) (c_aimed_firstOf : Nat → Int32) (c_aimed_gains : Nat → Int32) (c_aimed_left : Nat → Int32) (c_aimed_next : Nat → Int32) (c_aimed_solvedGains : Nat → Int32) (c_aimed_ways : Nat → Int32) (c_all_slots : Nat → Int32) (v2 : Int32) (v3 : Int32) (s1 : Int32) (s2 : Int32) (s3 : Int32) : Option (Int32 × Int32 × Int32 × Int32 × (Nat → Int32) × (Nat → Int32) × (Nat → Int32) × (Nat → Int32) × (Nat → Int32) × (Nat → Int32) × (Nat → Int32) × (Nat → Int32) × (Nat → Int32) × (Nat → Int32) × (Nat → Int32) × (Nat → Int32)) :=
    (f_X4_setGain N c_aimed_gains s1 s2 s3).bind fun o1 =>
    k15 c_aimed_askers c_aimed_places c_aimed_seatBits c_aimed_entries c_row c_aimed_best c_aimed_clipAll c_aimed_clipToOne c_aimed_clipToTwo c_aimed_firstOf o1 c_aimed_left c_aimed_next c_aimed_solvedGains c_aimed_ways c_all_slots v2 (v3 + 1)
set_option maxHeartbeats 4000000 in
set_option maxRecDepth 100000 in
theorem g_X7_findByWorth_60 {κ : KC} {ω : KW} {A : Nat → Prop} {ad : Nat → Nat} {u_above : Int64} {u_below : Int64} {u_board_age : Int32} {N : Nat} {c_board_askers : Int32} {c_board_places : Int32} {c_board_seats : Nat → Int32} {c_board_wishes : Nat → Int32} {c_a1 : Nat → Int32}  {k15 : Int32 → Int32 → Int32 → Int32 → (Nat → Int32) → (Nat → Int32) → (Nat → Int32) → (Nat → Int32) → (Nat → Int32) → (Nat → Int32) → (Nat → Int32) → (Nat → Int32) → (Nat → Int32) → (Nat → Int32) → (Nat → Int32) → (Nat → Int32) → Int32 → Int32 → Option (Int32 × Int32 × Int32 × Int32 × (Nat → Int32) × (Nat → Int32) × (Nat → Int32) × (Nat → Int32) × (Nat → Int32) × (Nat → Int32) × (Nat → Int32) × (Nat → Int32) × (Nat → Int32) × (Nat → Int32) × (Nat → Int32) × (Nat → Int32))} {res : Int32 × Int32 × Int32 × Int32 × (Nat → Int32) × (Nat → Int32) × (Nat → Int32) × (Nat → Int32) × (Nat → Int32) × (Nat → Int32) × (Nat → Int32) × (Nat → Int32) × (Nat → Int32) × (Nat → Int32) × (Nat → Int32) × (Nat → Int32)} (hk15 : ∀ {c_aimed_askers : Int32} {c_aimed_places : Int32} {c_aimed_seatBits : Int32} {c_aimed_entries : Int32} {c_row : Nat → Int32} {c_aimed_best : Nat → Int32} {c_aimed_clipAll : Nat → Int32} {c_aimed_clipToOne : Nat → Int32} {c_aimed_clipToTwo : Nat → Int32} {c_aimed_firstOf : Nat → Int32} {c_aimed_gains : Nat → Int32} {c_aimed_left : Nat → Int32} {c_aimed_next : Nat → Int32} {c_aimed_solvedGains : Nat → Int32} {c_aimed_ways : Nat → Int32} {c_all_slots : Nat → Int32} {v2 : Int32} {v3 : Int32}, k15 c_aimed_askers c_aimed_places c_aimed_seatBits c_aimed_entries c_row c_aimed_best c_aimed_clipAll c_aimed_clipToOne c_aimed_clipToTwo c_aimed_firstOf c_aimed_gains c_aimed_left c_aimed_next c_aimed_solvedGains c_aimed_ways c_all_slots v2 v3 = some res → GG (mu_X7_findByWorth c_a1) κ ω A (QR κ ω A ad (none) (w_X7_findByWorth res.1 res.2.1 res.2.2.1 res.2.2.2.1 c_board_askers c_board_places res.2.2.2.2.1 res.2.2.2.2.2.1 res.2.2.2.2.2.2.1 res.2.2.2.2.2.2.2.1 res.2.2.2.2.2.2.2.2.1 res.2.2.2.2.2.2.2.2.2.1 res.2.2.2.2.2.2.2.2.2.2.1 res.2.2.2.2.2.2.2.2.2.2.2.1 res.2.2.2.2.2.2.2.2.2.2.2.2.1 res.2.2.2.2.2.2.2.2.2.2.2.2.2.1 res.2.2.2.2.2.2.2.2.2.2.2.2.2.2.1 res.2.2.2.2.2.2.2.2.2.2.2.2.2.2.2 c_board_seats c_board_wishes u_above u_below u_board_age)) ad 0 0 15 (w_X7_findByWorth c_aimed_askers c_aimed_places c_aimed_seatBits c_aimed_entries c_board_askers c_board_places c_row c_aimed_best c_aimed_clipAll c_aimed_clipToOne c_aimed_clipToTwo c_aimed_firstOf c_aimed_gains c_aimed_left c_aimed_next c_aimed_solvedGains c_aimed_ways c_all_slots c_board_seats c_board_wishes u_above u_below u_board_age) [some (.ref 0), some (.ref 1000), some (.int v2), some (.int v3)] []) {c_aimed_askers : Int32} {c_aimed_places : Int32} {c_aimed_seatBits : Int32} {c_aimed_entries : Int32} {c_row : Nat → Int32} {c_aimed_best : Nat → Int32} {c_aimed_clipAll : Nat → Int32} {c_aimed_clipToOne : Nat → Int32} {c_aimed_clipToTwo : Nat → Int32} {c_aimed_firstOf : Nat → Int32} {c_aimed_gains : Nat → Int32} {c_aimed_left : Nat → Int32} {c_aimed_next : Nat → Int32} {c_aimed_solvedGains : Nat → Int32} {c_aimed_ways : Nat → Int32} {c_all_slots : Nat → Int32} {v2 : Int32} {v3 : Int32} {s1 : Int32} {s2 : Int32} {s3 : Int32} (hf : f_X7_findByWorth_60 N c_board_askers c_board_places c_board_seats c_board_wishes c_a1 k15 c_aimed_askers c_aimed_places c_aimed_seatBits c_aimed_entries c_row c_aimed_best c_aimed_clipAll c_aimed_clipToOne c_aimed_clipToTwo c_aimed_firstOf c_aimed_gains c_aimed_left c_aimed_next c_aimed_solvedGains c_aimed_ways c_all_slots v2 v3 s1 s2 s3 = some res) : GG (mu_X7_findByWorth c_a1) κ ω A (QR κ ω A ad (none) (w_X7_findByWorth res.1 res.2.1 res.2.2.1 res.2.2.2.1 c_board_askers c_board_places res.2.2.2.2.1 res.2.2.2.2.2.1 res.2.2.2.2.2.2.1 res.2.2.2.2.2.2.2.1 res.2.2.2.2.2.2.2.2.1 res.2.2.2.2.2.2.2.2.2.1 res.2.2.2.2.2.2.2.2.2.2.1 res.2.2.2.2.2.2.2.2.2.2.2.1 res.2.2.2.2.2.2.2.2.2.2.2.2.1 res.2.2.2.2.2.2.2.2.2.2.2.2.2.1 res.2.2.2.2.2.2.2.2.2.2.2.2.2.2.1 res.2.2.2.2.2.2.2.2.2.2.2.2.2.2.2 c_board_seats c_board_wishes u_above u_below u_board_age)) ad 0 0 60 (w_X7_findByWorth c_aimed_askers c_aimed_places c_aimed_seatBits c_aimed_entries c_board_askers c_board_places c_row c_aimed_best c_aimed_clipAll c_aimed_clipToOne c_aimed_clipToTwo c_aimed_firstOf c_aimed_gains c_aimed_left c_aimed_next c_aimed_solvedGains c_aimed_ways c_all_slots c_board_seats c_board_wishes u_above u_below u_board_age) [some (.ref 0), some (.ref 1000), some (.int v2), some (.int v3)] [.int s3, .int s2, .int s1, .ref 1] := by
  obtain ⟨o1, hc2, hf⟩ := ob hf
  refine G_callV (μ2 := mu_X4_setGain) (As := [.int s1, .int s2, .int s3]) (w2 := (w_X7_findByWorth c_aimed_askers c_aimed_places c_aimed_seatBits c_aimed_entries c_board_askers c_board_places c_row c_aimed_best c_aimed_clipAll c_aimed_clipToOne c_aimed_clipToTwo c_aimed_firstOf o1 c_aimed_left c_aimed_next c_aimed_solvedGains c_aimed_ways c_all_slots c_board_seats c_board_wishes u_above u_below u_board_age)) (wc := (w_X4_setGain c_aimed_gains c_aimed_askers c_aimed_places c_aimed_seatBits c_aimed_entries)) (wc2 := (w_X4_setGain o1 c_aimed_askers c_aimed_places c_aimed_seatBits c_aimed_entries)) (rest := []) (rv := []) [1, 9] [2, 12, 10, 4, 13, 11, 8, 14, 5, 6, 7] [0, 2, 3, 4, 5, 6, 7, 8, 10, 11, 12, 13, 14, 15, 16] [0, 15, 1, 2, 3, 4, 5, 6, 7, 16, 8, 9, 10, 11, 12, 13, 14] (c_X4_setGain hc2) cw_X4_setGain m_X7_296 dX7_findByWorth_60 rfl ⟨leb rfl, leb rfl⟩ ⟨rfl, rfl⟩ rfl ⟨_, rfl, rfl⟩ (Fit.mk rfl rfl rfl) rfl (leb rfl) (ROsub.nil rfl rfl) rfl ?_
  change GG _ _ _ _ _ _ _ _ _ (w_X7_findByWorth c_aimed_askers c_aimed_places c_aimed_seatBits c_aimed_entries c_board_askers c_board_places c_row c_aimed_best c_aimed_clipAll c_aimed_clipToOne c_aimed_clipToTwo c_aimed_firstOf o1 c_aimed_left c_aimed_next c_aimed_solvedGains c_aimed_ways c_all_slots c_board_seats c_board_wishes u_above u_below u_board_age) [some (.ref 0), some (.ref 1000), some (.int v2), some (.int v3)] []
  refine G_iinc 1 dX7_findByWorth_63 (by decide) rfl (ltb rfl) ?_
  change GG _ _ _ _ _ _ _ _ _ _ [some (.ref 0), some (.ref 1000), some (.int v2), some (.int (v3 + 1))] _
  refine G_goto 15 dX7_findByWorth_66 (by decide) ?_
  exact hk15 hf
def f_X7_findByWorth_15 (N : Nat) (c_board_askers : Int32) (c_board_places : Int32) (c_board_seats : Nat → Int32) (c_board_wishes : Nat → Int32) (c_a1 : Nat → Int32) (k2 : Int32 → Int32 → Int32 → Int32 → (Nat → Int32) → (Nat → Int32) → (Nat → Int32) → (Nat → Int32) → (Nat → Int32) → (Nat → Int32) → (Nat → Int32) → (Nat → Int32) → (Nat → Int32) → (Nat → Int32) → (Nat → Int32) → (Nat → Int32) → Int32 → Option (Int32 × Int32 × Int32 × Int32 × (Nat → Int32) × (Nat → Int32) × (Nat → Int32) × (Nat → Int32) × (Nat → Int32) × (Nat → Int32) × (Nat → Int32) × (Nat → Int32) × (Nat → Int32) × (Nat → Int32) × (Nat → Int32) × (Nat → Int32))) : Nat → Int32 → Int32 → Int32 → Int32 → (Nat → Int32) → (Nat → Int32) → (Nat → Int32) → (Nat → Int32) → (Nat → Int32) → (Nat → Int32) → (Nat → Int32) → (Nat → Int32) → (Nat → Int32) → (Nat → Int32) → (Nat → Int32) → (Nat → Int32) → Int32 → Int32 → Option (Int32 × Int32 × Int32 × Int32 × (Nat → Int32) × (Nat → Int32) × (Nat → Int32) × (Nat → Int32) × (Nat → Int32) × (Nat → Int32) × (Nat → Int32) × (Nat → Int32) × (Nat → Int32) × (Nat → Int32) × (Nat → Int32) × (Nat → Int32))
  | 0, _, _, _, _, _, _, _, _, _, _, _, _, _, _, _, _, _, _ => none
  | n + 1, c_aimed_askers, c_aimed_places, c_aimed_seatBits, c_aimed_entries, c_row, c_aimed_best, c_aimed_clipAll, c_aimed_clipToOne, c_aimed_clipToTwo, c_aimed_firstOf, c_aimed_gains, c_aimed_left, c_aimed_next, c_aimed_solvedGains, c_aimed_ways, c_all_slots, v2, v3 =>
    (if c_board_places ≤ v3 then
      k2 c_aimed_askers c_aimed_places c_aimed_seatBits c_aimed_entries c_row c_aimed_best c_aimed_clipAll c_aimed_clipToOne c_aimed_clipToTwo c_aimed_firstOf c_aimed_gains c_aimed_left c_aimed_next c_aimed_solvedGains c_aimed_ways c_all_slots (v2 + 1)
    else
      (f_X0_isOpen N c_board_wishes v2 v3).bind fun r2 =>
      (if r2 = 0 then
        f_X7_findByWorth_60 N c_board_askers c_board_places c_board_seats c_board_wishes c_a1 (f_X7_findByWorth_15 N c_board_askers c_board_places c_board_seats c_board_wishes c_a1 k2 n) c_aimed_askers c_aimed_places c_aimed_seatBits c_aimed_entries c_row c_aimed_best c_aimed_clipAll c_aimed_clipToOne c_aimed_clipToTwo c_aimed_firstOf c_aimed_gains c_aimed_left c_aimed_next c_aimed_solvedGains c_aimed_ways c_all_slots v2 v3 v2 v3 (-2000000000 : Int32)
      else
        (f_X0_worthOf N c_board_wishes v2 v3).bind fun r5 =>
        (rdI 8 c_a1 r5).bind fun t7 =>
        f_X7_findByWorth_60 N c_board_askers c_board_places c_board_seats c_board_wishes c_a1 (f_X7_findByWorth_15 N c_board_askers c_board_places c_board_seats c_board_wishes c_a1 k2 n) c_aimed_askers c_aimed_places c_aimed_seatBits c_aimed_entries c_row c_aimed_best c_aimed_clipAll c_aimed_clipToOne c_aimed_clipToTwo c_aimed_firstOf c_aimed_gains c_aimed_left c_aimed_next c_aimed_solvedGains c_aimed_ways c_all_slots v2 v3 v2 v3 t7))
set_option maxHeartbeats 4000000 in
set_option maxRecDepth 100000 in
theorem g_X7_findByWorth_15 {κ : KC} {ω : KW} {A : Nat → Prop} {ad : Nat → Nat} {u_above : Int64} {u_below : Int64} {u_board_age : Int32} {N : Nat} {c_board_askers : Int32} {c_board_places : Int32} {c_board_seats : Nat → Int32} {c_board_wishes : Nat → Int32} {c_a1 : Nat → Int32}  {k2 : Int32 → Int32 → Int32 → Int32 → (Nat → Int32) → (Nat → Int32) → (Nat → Int32) → (Nat → Int32) → (Nat → Int32) → (Nat → Int32) → (Nat → Int32) → (Nat → Int32) → (Nat → Int32) → (Nat → Int32) → (Nat → Int32) → (Nat → Int32) → Int32 → Option (Int32 × Int32 × Int32 × Int32 × (Nat → Int32) × (Nat → Int32) × (Nat → Int32) × (Nat → Int32) × (Nat → Int32) × (Nat → Int32) × (Nat → Int32) × (Nat → Int32) × (Nat → Int32) × (Nat → Int32) × (Nat → Int32) × (Nat → Int32))} {res : Int32 × Int32 × Int32 × Int32 × (Nat → Int32) × (Nat → Int32) × (Nat → Int32) × (Nat → Int32) × (Nat → Int32) × (Nat → Int32) × (Nat → Int32) × (Nat → Int32) × (Nat → Int32) × (Nat → Int32) × (Nat → Int32) × (Nat → Int32)} (hk2 : ∀ {c_aimed_askers : Int32} {c_aimed_places : Int32} {c_aimed_seatBits : Int32} {c_aimed_entries : Int32} {c_row : Nat → Int32} {c_aimed_best : Nat → Int32} {c_aimed_clipAll : Nat → Int32} {c_aimed_clipToOne : Nat → Int32} {c_aimed_clipToTwo : Nat → Int32} {c_aimed_firstOf : Nat → Int32} {c_aimed_gains : Nat → Int32} {c_aimed_left : Nat → Int32} {c_aimed_next : Nat → Int32} {c_aimed_solvedGains : Nat → Int32} {c_aimed_ways : Nat → Int32} {c_all_slots : Nat → Int32} {v2 : Int32}, k2 c_aimed_askers c_aimed_places c_aimed_seatBits c_aimed_entries c_row c_aimed_best c_aimed_clipAll c_aimed_clipToOne c_aimed_clipToTwo c_aimed_firstOf c_aimed_gains c_aimed_left c_aimed_next c_aimed_solvedGains c_aimed_ways c_all_slots v2 = some res → GG (mu_X7_findByWorth c_a1) κ ω A (QR κ ω A ad (none) (w_X7_findByWorth res.1 res.2.1 res.2.2.1 res.2.2.2.1 c_board_askers c_board_places res.2.2.2.2.1 res.2.2.2.2.2.1 res.2.2.2.2.2.2.1 res.2.2.2.2.2.2.2.1 res.2.2.2.2.2.2.2.2.1 res.2.2.2.2.2.2.2.2.2.1 res.2.2.2.2.2.2.2.2.2.2.1 res.2.2.2.2.2.2.2.2.2.2.2.1 res.2.2.2.2.2.2.2.2.2.2.2.2.1 res.2.2.2.2.2.2.2.2.2.2.2.2.2.1 res.2.2.2.2.2.2.2.2.2.2.2.2.2.2.1 res.2.2.2.2.2.2.2.2.2.2.2.2.2.2.2 c_board_seats c_board_wishes u_above u_below u_board_age)) ad 0 0 2 (w_X7_findByWorth c_aimed_askers c_aimed_places c_aimed_seatBits c_aimed_entries c_board_askers c_board_places c_row c_aimed_best c_aimed_clipAll c_aimed_clipToOne c_aimed_clipToTwo c_aimed_firstOf c_aimed_gains c_aimed_left c_aimed_next c_aimed_solvedGains c_aimed_ways c_all_slots c_board_seats c_board_wishes u_above u_below u_board_age) [some (.ref 0), some (.ref 1000), some (.int v2), none] []) : ∀ (n : Nat) {c_aimed_askers : Int32} {c_aimed_places : Int32} {c_aimed_seatBits : Int32} {c_aimed_entries : Int32} {c_row : Nat → Int32} {c_aimed_best : Nat → Int32} {c_aimed_clipAll : Nat → Int32} {c_aimed_clipToOne : Nat → Int32} {c_aimed_clipToTwo : Nat → Int32} {c_aimed_firstOf : Nat → Int32} {c_aimed_gains : Nat → Int32} {c_aimed_left : Nat → Int32} {c_aimed_next : Nat → Int32} {c_aimed_solvedGains : Nat → Int32} {c_aimed_ways : Nat → Int32} {c_all_slots : Nat → Int32} {v2 : Int32} {v3 : Int32}, f_X7_findByWorth_15 N c_board_askers c_board_places c_board_seats c_board_wishes c_a1 k2 n c_aimed_askers c_aimed_places c_aimed_seatBits c_aimed_entries c_row c_aimed_best c_aimed_clipAll c_aimed_clipToOne c_aimed_clipToTwo c_aimed_firstOf c_aimed_gains c_aimed_left c_aimed_next c_aimed_solvedGains c_aimed_ways c_all_slots v2 v3 = some res → GG (mu_X7_findByWorth c_a1) κ ω A (QR κ ω A ad (none) (w_X7_findByWorth res.1 res.2.1 res.2.2.1 res.2.2.2.1 c_board_askers c_board_places res.2.2.2.2.1 res.2.2.2.2.2.1 res.2.2.2.2.2.2.1 res.2.2.2.2.2.2.2.1 res.2.2.2.2.2.2.2.2.1 res.2.2.2.2.2.2.2.2.2.1 res.2.2.2.2.2.2.2.2.2.2.1 res.2.2.2.2.2.2.2.2.2.2.2.1 res.2.2.2.2.2.2.2.2.2.2.2.2.1 res.2.2.2.2.2.2.2.2.2.2.2.2.2.1 res.2.2.2.2.2.2.2.2.2.2.2.2.2.2.1 res.2.2.2.2.2.2.2.2.2.2.2.2.2.2.2 c_board_seats c_board_wishes u_above u_below u_board_age)) ad 0 0 15 (w_X7_findByWorth c_aimed_askers c_aimed_places c_aimed_seatBits c_aimed_entries c_board_askers c_board_places c_row c_aimed_best c_aimed_clipAll c_aimed_clipToOne c_aimed_clipToTwo c_aimed_firstOf c_aimed_gains c_aimed_left c_aimed_next c_aimed_solvedGains c_aimed_ways c_all_slots c_board_seats c_board_wishes u_above u_below u_board_age) [some (.ref 0), some (.ref 1000), some (.int v2), some (.int v3)] [] := by
  intro n
  induction n with
  | zero => intro c_aimed_askers c_aimed_places c_aimed_seatBits c_aimed_entries c_row c_aimed_best c_aimed_clipAll c_aimed_clipToOne c_aimed_clipToTwo c_aimed_firstOf c_aimed_gains c_aimed_left c_aimed_next c_aimed_solvedGains c_aimed_ways c_all_slots v2 v3 hf; exact ob_0 hf
  | succ n ih =>
    intro c_aimed_askers c_aimed_places c_aimed_seatBits c_aimed_entries c_row c_aimed_best c_aimed_clipAll c_aimed_clipToOne c_aimed_clipToTwo c_aimed_firstOf c_aimed_gains c_aimed_left c_aimed_next c_aimed_solvedGains c_aimed_ways c_all_slots v2 v3 hf
    refine G_iload_n dX7_findByWorth_15 rfl rfl ?_
    refine G_aload_n dX7_findByWorth_16 rfl rfl ?_
    refine G_get (v := .ref 2) F_X7_10 dX7_findByWorth_17 rfl rfl ?_
    refine G_get (v := .int c_board_places) F_X7_91 dX7_findByWorth_20 rfl rfl ?_
    refine G_icmp_ge 69 dX7_findByWorth_23 (by decide) (fun h1 => ?_) (fun h1 => ?_)
    · replace hf := ob_t h1 hf
      refine G_iinc 1 dX7_findByWorth_69 (by decide) rfl (ltb rfl) ?_
      change GG _ _ _ _ _ _ _ _ _ _ [some (.ref 0), some (.ref 1000), some (.int (v2 + 1)), some (.int v3)] _
      refine G_goto 2 dX7_findByWorth_72 (by decide) ?_
      refine GG.sb (lv2 := [some (.ref 0), some (.ref 1000), some (.int (v2 + 1)), none]) ?_ (lvS_v rfl (lvS_v rfl (lvS_v rfl (lvS_n (lvS_e)))))
      exact hk2 hf
    · replace hf := ob_f h1 hf
      refine G_aload_n dX7_findByWorth_26 rfl rfl ?_
      refine G_get (v := .ref 1) F_X7_28 dX7_findByWorth_27 rfl rfl ?_
      refine G_iload_n dX7_findByWorth_30 rfl rfl ?_
      refine G_iload_n dX7_findByWorth_31 rfl rfl ?_
      refine G_aload_n dX7_findByWorth_32 rfl rfl ?_
      refine G_get (v := .ref 2) F_X7_10 dX7_findByWorth_33 rfl rfl ?_
      refine G_iload_n dX7_findByWorth_36 rfl rfl ?_
      refine G_iload_n dX7_findByWorth_37 rfl rfl ?_
      obtain ⟨r2, hc3, hf⟩ := ob hf
      refine G_callV (μ2 := mu_X0_isOpen) (As := [.int v2, .int v3]) (w2 := (w_X7_findByWorth c_aimed_askers c_aimed_places c_aimed_seatBits c_aimed_entries c_board_askers c_board_places c_row c_aimed_best c_aimed_clipAll c_aimed_clipToOne c_aimed_clipToTwo c_aimed_firstOf c_aimed_gains c_aimed_left c_aimed_next c_aimed_solvedGains c_aimed_ways c_all_slots c_board_seats c_board_wishes u_above u_below u_board_age)) (wc := (w_X0_isOpen c_board_wishes c_board_askers c_board_places u_board_age)) (wc2 := (w_X0_isOpen c_board_wishes c_board_askers c_board_places u_board_age)) (rest := [.int v3, .int v2, .ref 1]) (rv := [.int r2]) [2, 16] [15, 1008, 1009] [0, 1, 3, 4, 5, 6, 7, 8, 9, 10, 11, 12, 13, 14, 15] [0, 1, 15, 2, 3, 4, 5, 6, 7, 8, 9, 10, 11, 12, 13, 14, 16] (c_X0_isOpen hc3) cw_X0_isOpen m_X7_292 dX7_findByWorth_38 rfl ⟨leb rfl, leb rfl⟩ ⟨rfl, rfl⟩ rfl ⟨_, rfl, rfl⟩ (Fit.mk rfl rfl rfl) rfl (leb rfl) (ROsub.nil rfl rfl) rfl ?_
      change GG _ _ _ _ _ _ _ _ _ (w_X7_findByWorth c_aimed_askers c_aimed_places c_aimed_seatBits c_aimed_entries c_board_askers c_board_places c_row c_aimed_best c_aimed_clipAll c_aimed_clipToOne c_aimed_clipToTwo c_aimed_firstOf c_aimed_gains c_aimed_left c_aimed_next c_aimed_solvedGains c_aimed_ways c_all_slots c_board_seats c_board_wishes u_above u_below u_board_age) [some (.ref 0), some (.ref 1000), some (.int v2), some (.int v3)] [.int r2, .int v3, .int v2, .ref 1]
      refine G_if_eq 58 dX7_findByWorth_41 (by decide) (fun h4 => ?_) (fun h4 => ?_)
      · replace hf := ob_t h4 hf
        refine G_ldc (v := (-2000000000 : Int32)) dX7_findByWorth_58 k_X7_193 ?_
        exact g_X7_findByWorth_60 ih hf
      · replace hf := ob_f h4 hf
        refine G_aload_n dX7_findByWorth_44 rfl rfl ?_
        refine G_aload_n dX7_findByWorth_45 rfl rfl ?_
        refine G_get (v := .ref 2) F_X7_10 dX7_findByWorth_46 rfl rfl ?_
        refine G_iload_n dX7_findByWorth_49 rfl rfl ?_
        refine G_iload_n dX7_findByWorth_50 rfl rfl ?_
        obtain ⟨r5, hc6, hf⟩ := ob hf
        refine G_callV (μ2 := mu_X0_worthOf) (As := [.int v2, .int v3]) (w2 := (w_X7_findByWorth c_aimed_askers c_aimed_places c_aimed_seatBits c_aimed_entries c_board_askers c_board_places c_row c_aimed_best c_aimed_clipAll c_aimed_clipToOne c_aimed_clipToTwo c_aimed_firstOf c_aimed_gains c_aimed_left c_aimed_next c_aimed_solvedGains c_aimed_ways c_all_slots c_board_seats c_board_wishes u_above u_below u_board_age)) (wc := (w_X0_worthOf c_board_wishes c_board_askers c_board_places u_board_age)) (wc2 := (w_X0_worthOf c_board_wishes c_board_askers c_board_places u_board_age)) (rest := [.ref 1000, .int v3, .int v2, .ref 1]) (rv := [.int r5]) [2, 16] [15, 1008, 1009] [0, 1, 3, 4, 5, 6, 7, 8, 9, 10, 11, 12, 13, 14, 15] [0, 1, 15, 2, 3, 4, 5, 6, 7, 8, 9, 10, 11, 12, 13, 14, 16] (c_X0_worthOf hc6) cw_X0_worthOf m_X7_118 dX7_findByWorth_51 rfl ⟨leb rfl, leb rfl⟩ ⟨rfl, rfl⟩ rfl ⟨_, rfl, rfl⟩ (Fit.mk rfl rfl rfl) rfl (leb rfl) (ROsub.nil rfl rfl) rfl ?_
        change GG _ _ _ _ _ _ _ _ _ (w_X7_findByWorth c_aimed_askers c_aimed_places c_aimed_seatBits c_aimed_entries c_board_askers c_board_places c_row c_aimed_best c_aimed_clipAll c_aimed_clipToOne c_aimed_clipToTwo c_aimed_firstOf c_aimed_gains c_aimed_left c_aimed_next c_aimed_solvedGains c_aimed_ways c_all_slots c_board_seats c_board_wishes u_above u_below u_board_age) [some (.ref 0), some (.ref 1000), some (.int v2), some (.int v3)] [.int r5, .ref 1000, .int v3, .int v2, .ref 1]
        obtain ⟨t7, ht7, hf⟩ := ob hf
        refine G_tald dX7_findByWorth_54 (List.mem_of_getElem? (i := 0) rfl) ht7 ?_
        refine G_goto 60 dX7_findByWorth_55 (by decide) ?_
        exact g_X7_findByWorth_60 ih hf
def f_X7_findByWorth_2 (N : Nat) (c_board_askers : Int32) (c_board_places : Int32) (c_board_seats : Nat → Int32) (c_board_wishes : Nat → Int32) (c_a1 : Nat → Int32) : Nat → Int32 → Int32 → Int32 → Int32 → (Nat → Int32) → (Nat → Int32) → (Nat → Int32) → (Nat → Int32) → (Nat → Int32) → (Nat → Int32) → (Nat → Int32) → (Nat → Int32) → (Nat → Int32) → (Nat → Int32) → (Nat → Int32) → (Nat → Int32) → Int32 → Option (Int32 × Int32 × Int32 × Int32 × (Nat → Int32) × (Nat → Int32) × (Nat → Int32) × (Nat → Int32) × (Nat → Int32) × (Nat → Int32) × (Nat → Int32) × (Nat → Int32) × (Nat → Int32) × (Nat → Int32) × (Nat → Int32) × (Nat → Int32))
  | 0, _, _, _, _, _, _, _, _, _, _, _, _, _, _, _, _, _ => none
  | n + 1, c_aimed_askers, c_aimed_places, c_aimed_seatBits, c_aimed_entries, c_row, c_aimed_best, c_aimed_clipAll, c_aimed_clipToOne, c_aimed_clipToTwo, c_aimed_firstOf, c_aimed_gains, c_aimed_left, c_aimed_next, c_aimed_solvedGains, c_aimed_ways, c_all_slots, v2 =>
    (if c_board_askers ≤ v2 then
      (f_X4_solve N c_board_askers c_board_places c_aimed_gains c_board_seats c_aimed_askers c_aimed_places c_aimed_seatBits c_aimed_entries c_aimed_best c_aimed_clipAll c_aimed_clipToOne c_aimed_clipToTwo c_aimed_firstOf c_aimed_left c_aimed_next c_all_slots c_aimed_solvedGains c_aimed_ways).bind fun (o2, o3, o4, o5, o6, o7, o8, o9, o10, o11, o12, o13, o14, o15) =>
      (f_X4_pathTo N o2 o3 o6 o12 o14 o15 c_row 0).bind fun o17 =>
      some (o2, o3, o4, o5, o17, o6, o7, o8, o9, o10, c_aimed_gains, o11, o12, o14, o15, o13)
    else
      f_X7_findByWorth_15 N c_board_askers c_board_places c_board_seats c_board_wishes c_a1 (f_X7_findByWorth_2 N c_board_askers c_board_places c_board_seats c_board_wishes c_a1 n) N c_aimed_askers c_aimed_places c_aimed_seatBits c_aimed_entries c_row c_aimed_best c_aimed_clipAll c_aimed_clipToOne c_aimed_clipToTwo c_aimed_firstOf c_aimed_gains c_aimed_left c_aimed_next c_aimed_solvedGains c_aimed_ways c_all_slots v2 (-1 : Int32))
set_option maxHeartbeats 4000000 in
set_option maxRecDepth 100000 in
theorem g_X7_findByWorth_2 {κ : KC} {ω : KW} {A : Nat → Prop} {ad : Nat → Nat} {u_above : Int64} {u_below : Int64} {u_board_age : Int32} {N : Nat} {c_board_askers : Int32} {c_board_places : Int32} {c_board_seats : Nat → Int32} {c_board_wishes : Nat → Int32} {c_a1 : Nat → Int32}  {res : Int32 × Int32 × Int32 × Int32 × (Nat → Int32) × (Nat → Int32) × (Nat → Int32) × (Nat → Int32) × (Nat → Int32) × (Nat → Int32) × (Nat → Int32) × (Nat → Int32) × (Nat → Int32) × (Nat → Int32) × (Nat → Int32) × (Nat → Int32)} : ∀ (n : Nat) {c_aimed_askers : Int32} {c_aimed_places : Int32} {c_aimed_seatBits : Int32} {c_aimed_entries : Int32} {c_row : Nat → Int32} {c_aimed_best : Nat → Int32} {c_aimed_clipAll : Nat → Int32} {c_aimed_clipToOne : Nat → Int32} {c_aimed_clipToTwo : Nat → Int32} {c_aimed_firstOf : Nat → Int32} {c_aimed_gains : Nat → Int32} {c_aimed_left : Nat → Int32} {c_aimed_next : Nat → Int32} {c_aimed_solvedGains : Nat → Int32} {c_aimed_ways : Nat → Int32} {c_all_slots : Nat → Int32} {v2 : Int32}, f_X7_findByWorth_2 N c_board_askers c_board_places c_board_seats c_board_wishes c_a1 n c_aimed_askers c_aimed_places c_aimed_seatBits c_aimed_entries c_row c_aimed_best c_aimed_clipAll c_aimed_clipToOne c_aimed_clipToTwo c_aimed_firstOf c_aimed_gains c_aimed_left c_aimed_next c_aimed_solvedGains c_aimed_ways c_all_slots v2 = some res → GG (mu_X7_findByWorth c_a1) κ ω A (QR κ ω A ad (none) (w_X7_findByWorth res.1 res.2.1 res.2.2.1 res.2.2.2.1 c_board_askers c_board_places res.2.2.2.2.1 res.2.2.2.2.2.1 res.2.2.2.2.2.2.1 res.2.2.2.2.2.2.2.1 res.2.2.2.2.2.2.2.2.1 res.2.2.2.2.2.2.2.2.2.1 res.2.2.2.2.2.2.2.2.2.2.1 res.2.2.2.2.2.2.2.2.2.2.2.1 res.2.2.2.2.2.2.2.2.2.2.2.2.1 res.2.2.2.2.2.2.2.2.2.2.2.2.2.1 res.2.2.2.2.2.2.2.2.2.2.2.2.2.2.1 res.2.2.2.2.2.2.2.2.2.2.2.2.2.2.2 c_board_seats c_board_wishes u_above u_below u_board_age)) ad 0 0 2 (w_X7_findByWorth c_aimed_askers c_aimed_places c_aimed_seatBits c_aimed_entries c_board_askers c_board_places c_row c_aimed_best c_aimed_clipAll c_aimed_clipToOne c_aimed_clipToTwo c_aimed_firstOf c_aimed_gains c_aimed_left c_aimed_next c_aimed_solvedGains c_aimed_ways c_all_slots c_board_seats c_board_wishes u_above u_below u_board_age) [some (.ref 0), some (.ref 1000), some (.int v2), none] [] := by
  intro n
  induction n with
  | zero => intro c_aimed_askers c_aimed_places c_aimed_seatBits c_aimed_entries c_row c_aimed_best c_aimed_clipAll c_aimed_clipToOne c_aimed_clipToTwo c_aimed_firstOf c_aimed_gains c_aimed_left c_aimed_next c_aimed_solvedGains c_aimed_ways c_all_slots v2 hf; exact ob_0 hf
  | succ n ih =>
    intro c_aimed_askers c_aimed_places c_aimed_seatBits c_aimed_entries c_row c_aimed_best c_aimed_clipAll c_aimed_clipToOne c_aimed_clipToTwo c_aimed_firstOf c_aimed_gains c_aimed_left c_aimed_next c_aimed_solvedGains c_aimed_ways c_all_slots v2 hf
    refine G_iload_n dX7_findByWorth_2 rfl rfl ?_
    refine G_aload_n dX7_findByWorth_3 rfl rfl ?_
    refine G_get (v := .ref 2) F_X7_10 dX7_findByWorth_4 rfl rfl ?_
    refine G_get (v := .int c_board_askers) F_X7_79 dX7_findByWorth_7 rfl rfl ?_
    refine G_icmp_ge 75 dX7_findByWorth_10 (by decide) (fun h1 => ?_) (fun h1 => ?_)
    · replace hf := ob_t h1 hf
      refine G_aload_n dX7_findByWorth_75 rfl rfl ?_
      refine G_get (v := .ref 1) F_X7_28 dX7_findByWorth_76 rfl rfl ?_
      obtain ⟨⟨o2, o3, o4, o5, o6, o7, o8, o9, o10, o11, o12, o13, o14, o15⟩, hc16, hf⟩ := ob hf
      refine G_callV (μ2 := mu_X4_solve) (As := []) (w2 := (w_X7_findByWorth o2 o3 o4 o5 c_board_askers c_board_places c_row o6 o7 o8 o9 o10 c_aimed_gains o11 o12 o14 o15 o13 c_board_seats c_board_wishes u_above u_below u_board_age)) (wc := (w_X4_solve c_aimed_askers c_aimed_places c_aimed_seatBits c_aimed_entries c_aimed_best c_board_askers c_board_places c_aimed_clipAll c_aimed_clipToOne c_aimed_clipToTwo c_aimed_firstOf c_aimed_gains c_aimed_left c_aimed_next c_all_slots c_aimed_solvedGains c_aimed_ways c_board_seats u_board_age)) (wc2 := (w_X4_solve o2 o3 o4 o5 o6 c_board_askers c_board_places o7 o8 o9 o10 c_aimed_gains o11 o12 o13 o14 o15 c_board_seats u_board_age)) (rest := []) (rv := []) [1, 4, 2, 5, 6, 7, 8, 9, 10, 11, 14, 12, 13, 15] [16, 1008, 1009] [0, 3, 16] [0, 3, 5, 1, 4, 6, 7, 8, 9, 10, 11, 12, 14, 15, 13, 16, 2] (c_X4_solve hc16) cw_X4_solve m_X7_201 dX7_findByWorth_79 rfl ⟨leb rfl, leb rfl⟩ ⟨rfl, rfl⟩ rfl ⟨_, rfl, rfl⟩ (Fit.mk rfl rfl rfl) rfl (leb rfl) (ROsub.nil rfl rfl) rfl ?_
      change GG _ _ _ _ _ _ _ _ _ (w_X7_findByWorth o2 o3 o4 o5 c_board_askers c_board_places c_row o6 o7 o8 o9 o10 c_aimed_gains o11 o12 o14 o15 o13 c_board_seats c_board_wishes u_above u_below u_board_age) [some (.ref 0), some (.ref 1000), some (.int v2), none] []
      refine G_aload_n dX7_findByWorth_82 rfl rfl ?_
      refine G_get (v := .ref 1) F_X7_28 dX7_findByWorth_83 rfl rfl ?_
      refine G_iconst 0 dX7_findByWorth_86 (by decide) ?_
      refine G_aload_n dX7_findByWorth_87 rfl rfl ?_
      refine G_get (v := .ref 3) F_X7_68 dX7_findByWorth_88 rfl rfl ?_
      obtain ⟨o17, hc18, hf⟩ := ob hf
      refine G_callV (μ2 := mu_X4_pathTo) (As := [.int 0, .ref 1]) (w2 := (w_X7_findByWorth o2 o3 o4 o5 c_board_askers c_board_places o17 o6 o7 o8 o9 o10 c_aimed_gains o11 o12 o14 o15 o13 c_board_seats c_board_wishes u_above u_below u_board_age)) (wc := (w_X4_pathTo o2 o3 c_row o6 o12 o14 o15 o4 o5)) (wc2 := (w_X4_pathTo o2 o3 o17 o6 o12 o14 o15 o4 o5)) (rest := []) (rv := []) [1, 3, 4, 11, 12, 13] [2, 9, 10, 8, 14, 5, 6, 7] [0, 2, 5, 6, 7, 8, 9, 10, 14, 15, 16] [0, 11, 1, 12, 13, 2, 3, 4, 5, 6, 7, 14, 15, 16, 8, 9, 10] (c_X4_pathTo hc18) cw_X4_pathTo m_X7_131 dX7_findByWorth_91 rfl ⟨leb rfl, leb rfl⟩ ⟨rfl, rfl⟩ rfl ⟨_, rfl, rfl⟩ (Fit.mk rfl rfl rfl) rfl (leb rfl) (ROsub.nil rfl rfl) rfl ?_
      change GG _ _ _ _ _ _ _ _ _ (w_X7_findByWorth o2 o3 o4 o5 c_board_askers c_board_places o17 o6 o7 o8 o9 o10 c_aimed_gains o11 o12 o14 o15 o13 c_board_seats c_board_wishes u_above u_below u_board_age) [some (.ref 0), some (.ref 1000), some (.int v2), none] []
      obtain rfl := os hf
      exact G_return dX7_findByWorth_94 rfl
    · replace hf := ob_f h1 hf
      refine G_iconst (-1 : Int32) dX7_findByWorth_13 (by decide) ?_
      refine G_istore_n dX7_findByWorth_14 rfl (ltb rfl) ?_
      change GG _ _ _ _ _ _ _ _ _ _ [some (.ref 0), some (.ref 1000), some (.int v2), some (.int (-1 : Int32))] _
      exact g_X7_findByWorth_15 ih N hf
def f_X7_findByWorth (N : Nat) (c_board_askers : Int32) (c_board_places : Int32) (c_board_seats : Nat → Int32) (c_board_wishes : Nat → Int32) (c_a1 : Nat → Int32) (c_aimed_askers : Int32) (c_aimed_places : Int32) (c_aimed_seatBits : Int32) (c_aimed_entries : Int32) (c_row : Nat → Int32) (c_aimed_best : Nat → Int32) (c_aimed_clipAll : Nat → Int32) (c_aimed_clipToOne : Nat → Int32) (c_aimed_clipToTwo : Nat → Int32) (c_aimed_firstOf : Nat → Int32) (c_aimed_gains : Nat → Int32) (c_aimed_left : Nat → Int32) (c_aimed_next : Nat → Int32) (c_aimed_solvedGains : Nat → Int32) (c_aimed_ways : Nat → Int32) (c_all_slots : Nat → Int32)  : Option (Int32 × Int32 × Int32 × Int32 × (Nat → Int32) × (Nat → Int32) × (Nat → Int32) × (Nat → Int32) × (Nat → Int32) × (Nat → Int32) × (Nat → Int32) × (Nat → Int32) × (Nat → Int32) × (Nat → Int32) × (Nat → Int32) × (Nat → Int32)) :=
  f_X7_findByWorth_2 N c_board_askers c_board_places c_board_seats c_board_wishes c_a1 N c_aimed_askers c_aimed_places c_aimed_seatBits c_aimed_entries c_row c_aimed_best c_aimed_clipAll c_aimed_clipToOne c_aimed_clipToTwo c_aimed_firstOf c_aimed_gains c_aimed_left c_aimed_next c_aimed_solvedGains c_aimed_ways c_all_slots 0
set_option maxHeartbeats 4000000 in
set_option maxRecDepth 100000 in
theorem c_X7_findByWorth {N : Nat} {c_board_askers : Int32} {c_board_places : Int32} {c_board_seats : Nat → Int32} {c_board_wishes : Nat → Int32} {c_a1 : Nat → Int32} {c_aimed_askers : Int32} {c_aimed_places : Int32} {c_aimed_seatBits : Int32} {c_aimed_entries : Int32} {c_row : Nat → Int32} {c_aimed_best : Nat → Int32} {c_aimed_clipAll : Nat → Int32} {c_aimed_clipToOne : Nat → Int32} {c_aimed_clipToTwo : Nat → Int32} {c_aimed_firstOf : Nat → Int32} {c_aimed_gains : Nat → Int32} {c_aimed_left : Nat → Int32} {c_aimed_next : Nat → Int32} {c_aimed_solvedGains : Nat → Int32} {c_aimed_ways : Nat → Int32} {c_all_slots : Nat → Int32} {u_above : Int64} {u_below : Int64} {u_board_age : Int32}  {res : Int32 × Int32 × Int32 × Int32 × (Nat → Int32) × (Nat → Int32) × (Nat → Int32) × (Nat → Int32) × (Nat → Int32) × (Nat → Int32) × (Nat → Int32) × (Nat → Int32) × (Nat → Int32) × (Nat → Int32) × (Nat → Int32) × (Nat → Int32)} (hf : f_X7_findByWorth N c_board_askers c_board_places c_board_seats c_board_wishes c_a1 c_aimed_askers c_aimed_places c_aimed_seatBits c_aimed_entries c_row c_aimed_best c_aimed_clipAll c_aimed_clipToOne c_aimed_clipToTwo c_aimed_firstOf c_aimed_gains c_aimed_left c_aimed_next c_aimed_solvedGains c_aimed_ways c_all_slots = some res) : Con (mu_X7_findByWorth c_a1) [.ref 0, .ref 1000] (w_X7_findByWorth c_aimed_askers c_aimed_places c_aimed_seatBits c_aimed_entries c_board_askers c_board_places c_row c_aimed_best c_aimed_clipAll c_aimed_clipToOne c_aimed_clipToTwo c_aimed_firstOf c_aimed_gains c_aimed_left c_aimed_next c_aimed_solvedGains c_aimed_ways c_all_slots c_board_seats c_board_wishes u_above u_below u_board_age) (none) (w_X7_findByWorth res.1 res.2.1 res.2.2.1 res.2.2.2.1 c_board_askers c_board_places res.2.2.2.2.1 res.2.2.2.2.2.1 res.2.2.2.2.2.2.1 res.2.2.2.2.2.2.2.1 res.2.2.2.2.2.2.2.2.1 res.2.2.2.2.2.2.2.2.2.1 res.2.2.2.2.2.2.2.2.2.2.1 res.2.2.2.2.2.2.2.2.2.2.2.1 res.2.2.2.2.2.2.2.2.2.2.2.2.1 res.2.2.2.2.2.2.2.2.2.2.2.2.2.1 res.2.2.2.2.2.2.2.2.2.2.2.2.2.2.1 res.2.2.2.2.2.2.2.2.2.2.2.2.2.2.2 c_board_seats c_board_wishes u_above u_below u_board_age) := by
  refine Con.mk (show plainName RX7 = true by decide +kernel) (leb rfl) (fun κ ω A ad => ?_)
  change GG (mu_X7_findByWorth c_a1) κ ω A (QR κ ω A ad (none) (w_X7_findByWorth res.1 res.2.1 res.2.2.1 res.2.2.2.1 c_board_askers c_board_places res.2.2.2.2.1 res.2.2.2.2.2.1 res.2.2.2.2.2.2.1 res.2.2.2.2.2.2.2.1 res.2.2.2.2.2.2.2.2.1 res.2.2.2.2.2.2.2.2.2.1 res.2.2.2.2.2.2.2.2.2.2.1 res.2.2.2.2.2.2.2.2.2.2.2.1 res.2.2.2.2.2.2.2.2.2.2.2.2.1 res.2.2.2.2.2.2.2.2.2.2.2.2.2.1 res.2.2.2.2.2.2.2.2.2.2.2.2.2.2.1 res.2.2.2.2.2.2.2.2.2.2.2.2.2.2.2 c_board_seats c_board_wishes u_above u_below u_board_age)) ad 0 0 0 (w_X7_findByWorth c_aimed_askers c_aimed_places c_aimed_seatBits c_aimed_entries c_board_askers c_board_places c_row c_aimed_best c_aimed_clipAll c_aimed_clipToOne c_aimed_clipToTwo c_aimed_firstOf c_aimed_gains c_aimed_left c_aimed_next c_aimed_solvedGains c_aimed_ways c_all_slots c_board_seats c_board_wishes u_above u_below u_board_age) [some (.ref 0), some (.ref 1000), none, none] []
  refine G_iconst 0 dX7_findByWorth_0 (by decide) ?_
  refine G_istore_n dX7_findByWorth_1 rfl (ltb rfl) ?_
  change GG _ _ _ _ _ _ _ _ _ _ [some (.ref 0), some (.ref 1000), some (.int 0), none] _
  exact g_X7_findByWorth_2 N hf
set_option maxRecDepth 20000 in
theorem dX7_solveVotes_0 : decode cX7_solveVotes 0 = .ok (.iconst 0, 1) := by decide +kernel
set_option maxRecDepth 20000 in
theorem dX7_solveVotes_1 : decode cX7_solveVotes 1 = .ok (.istore 4, 2) := by decide +kernel
set_option maxRecDepth 20000 in
theorem dX7_solveVotes_3 : decode cX7_solveVotes 3 = .ok (.iload 4, 2) := by decide +kernel
set_option maxRecDepth 20000 in
theorem dX7_solveVotes_5 : decode cX7_solveVotes 5 = .ok (.aload_n 0, 1) := by decide +kernel
set_option maxRecDepth 20000 in
theorem dX7_solveVotes_6 : decode cX7_solveVotes 6 = .ok (.getfield 10, 3) := by decide +kernel
set_option maxRecDepth 20000 in
theorem dX7_solveVotes_9 : decode cX7_solveVotes 9 = .ok (.getfield 79, 3) := by decide +kernel
set_option maxRecDepth 20000 in
theorem dX7_solveVotes_12 : decode cX7_solveVotes 12 = .ok (.if_icmp .ge 112, 3) := by decide +kernel
set_option maxRecDepth 20000 in
theorem dX7_solveVotes_15 : decode cX7_solveVotes 15 = .ok (.aload_n 0, 1) := by decide +kernel
set_option maxRecDepth 20000 in
theorem dX7_solveVotes_16 : decode cX7_solveVotes 16 = .ok (.getfield 10, 3) := by decide +kernel
set_option maxRecDepth 20000 in
theorem dX7_solveVotes_19 : decode cX7_solveVotes 19 = .ok (.iload_n 1, 1) := by decide +kernel
set_option maxRecDepth 20000 in
theorem dX7_solveVotes_20 : decode cX7_solveVotes 20 = .ok (.iload 4, 2) := by decide +kernel
set_option maxRecDepth 20000 in
theorem dX7_solveVotes_22 : decode cX7_solveVotes 22 = .ok (.invokevirtual 163, 3) := by decide +kernel
set_option maxRecDepth 20000 in
theorem dX7_solveVotes_25 : decode cX7_solveVotes 25 = .ok (.istore 5, 2) := by decide +kernel
set_option maxRecDepth 20000 in
theorem dX7_solveVotes_27 : decode cX7_solveVotes 27 = .ok (.iconst (-1), 1) := by decide +kernel
set_option maxRecDepth 20000 in
theorem dX7_solveVotes_28 : decode cX7_solveVotes 28 = .ok (.istore 6, 2) := by decide +kernel
set_option maxRecDepth 20000 in
theorem dX7_solveVotes_30 : decode cX7_solveVotes 30 = .ok (.iload 6, 2) := by decide +kernel
set_option maxRecDepth 20000 in
theorem dX7_solveVotes_32 : decode cX7_solveVotes 32 = .ok (.aload_n 0, 1) := by decide +kernel
set_option maxRecDepth 20000 in
theorem dX7_solveVotes_33 : decode cX7_solveVotes 33 = .ok (.getfield 10, 3) := by decide +kernel
set_option maxRecDepth 20000 in
theorem dX7_solveVotes_36 : decode cX7_solveVotes 36 = .ok (.getfield 91, 3) := by decide +kernel
set_option maxRecDepth 20000 in
theorem dX7_solveVotes_39 : decode cX7_solveVotes 39 = .ok (.if_icmp .ge 79, 3) := by decide +kernel
set_option maxRecDepth 20000 in
theorem dX7_solveVotes_42 : decode cX7_solveVotes 42 = .ok (.aload_n 0, 1) := by decide +kernel
set_option maxRecDepth 20000 in
theorem dX7_solveVotes_43 : decode cX7_solveVotes 43 = .ok (.getfield 10, 3) := by decide +kernel
set_option maxRecDepth 20000 in
theorem dX7_solveVotes_46 : decode cX7_solveVotes 46 = .ok (.iload 4, 2) := by decide +kernel
set_option maxRecDepth 20000 in
theorem dX7_solveVotes_48 : decode cX7_solveVotes 48 = .ok (.iload 6, 2) := by decide +kernel
set_option maxRecDepth 20000 in
theorem dX7_solveVotes_50 : decode cX7_solveVotes 50 = .ok (.invokevirtual 118, 3) := by decide +kernel
set_option maxRecDepth 20000 in
theorem dX7_solveVotes_53 : decode cX7_solveVotes 53 = .ok (.istore 7, 2) := by decide +kernel
set_option maxRecDepth 20000 in
theorem dX7_solveVotes_55 : decode cX7_solveVotes 55 = .ok (.iload 7, 2) := by decide +kernel
set_option maxRecDepth 20000 in
theorem dX7_solveVotes_57 : decode cX7_solveVotes 57 = .ok (.iload 5, 2) := by decide +kernel
set_option maxRecDepth 20000 in
theorem dX7_solveVotes_59 : decode cX7_solveVotes 59 = .ok (.if_icmp .ge 7, 3) := by decide +kernel
set_option maxRecDepth 20000 in
theorem dX7_solveVotes_62 : decode cX7_solveVotes 62 = .ok (.iload_n 2, 1) := by decide +kernel
set_option maxRecDepth 20000 in
theorem dX7_solveVotes_63 : decode cX7_solveVotes 63 = .ok (.goto 15, 3) := by decide +kernel
set_option maxRecDepth 20000 in
theorem dX7_solveVotes_66 : decode cX7_solveVotes 66 = .ok (.iload 7, 2) := by decide +kernel
set_option maxRecDepth 20000 in
theorem dX7_solveVotes_68 : decode cX7_solveVotes 68 = .ok (.iload 5, 2) := by decide +kernel
set_option maxRecDepth 20000 in
theorem dX7_solveVotes_70 : decode cX7_solveVotes 70 = .ok (.if_icmp .le 7, 3) := by decide +kernel
set_option maxRecDepth 20000 in
theorem dX7_solveVotes_73 : decode cX7_solveVotes 73 = .ok (.iload_n 3, 1) := by decide +kernel
set_option maxRecDepth 20000 in
theorem dX7_solveVotes_74 : decode cX7_solveVotes 74 = .ok (.goto 4, 3) := by decide +kernel
set_option maxRecDepth 20000 in
theorem dX7_solveVotes_77 : decode cX7_solveVotes 77 = .ok (.iconst 0, 1) := by decide +kernel
set_option maxRecDepth 20000 in
theorem dX7_solveVotes_78 : decode cX7_solveVotes 78 = .ok (.istore 8, 2) := by decide +kernel
set_option maxRecDepth 20000 in
theorem dX7_solveVotes_80 : decode cX7_solveVotes 80 = .ok (.aload_n 0, 1) := by decide +kernel
set_option maxRecDepth 20000 in
theorem dX7_solveVotes_81 : decode cX7_solveVotes 81 = .ok (.getfield 28, 3) := by decide +kernel
set_option maxRecDepth 20000 in
theorem dX7_solveVotes_84 : decode cX7_solveVotes 84 = .ok (.iload 4, 2) := by decide +kernel
set_option maxRecDepth 20000 in
theorem dX7_solveVotes_86 : decode cX7_solveVotes 86 = .ok (.iload 6, 2) := by decide +kernel
set_option maxRecDepth 20000 in
theorem dX7_solveVotes_88 : decode cX7_solveVotes 88 = .ok (.aload_n 0, 1) := by decide +kernel
set_option maxRecDepth 20000 in
theorem dX7_solveVotes_89 : decode cX7_solveVotes 89 = .ok (.getfield 10, 3) := by decide +kernel
set_option maxRecDepth 20000 in
theorem dX7_solveVotes_92 : decode cX7_solveVotes 92 = .ok (.iload 4, 2) := by decide +kernel
set_option maxRecDepth 20000 in
theorem dX7_solveVotes_94 : decode cX7_solveVotes 94 = .ok (.iload 6, 2) := by decide +kernel
set_option maxRecDepth 20000 in
theorem dX7_solveVotes_96 : decode cX7_solveVotes 96 = .ok (.invokevirtual 292, 3) := by decide +kernel
set_option maxRecDepth 20000 in
theorem dX7_solveVotes_99 : decode cX7_solveVotes 99 = .ok (.ifCond .eq 8, 3) := by decide +kernel
set_option maxRecDepth 20000 in
theorem dX7_solveVotes_102 : decode cX7_solveVotes 102 = .ok (.iload 8, 2) := by decide +kernel
set_option maxRecDepth 20000 in
theorem dX7_solveVotes_104 : decode cX7_solveVotes 104 = .ok (.goto 5, 3) := by decide +kernel
set_option maxRecDepth 20000 in
theorem dX7_solveVotes_107 : decode cX7_solveVotes 107 = .ok (.ldc 193, 2) := by decide +kernel
set_option maxRecDepth 20000 in
theorem dX7_solveVotes_109 : decode cX7_solveVotes 109 = .ok (.invokevirtual 296, 3) := by decide +kernel
set_option maxRecDepth 20000 in
theorem dX7_solveVotes_112 : decode cX7_solveVotes 112 = .ok (.iinc 6 1, 3) := by decide +kernel
set_option maxRecDepth 20000 in
theorem dX7_solveVotes_115 : decode cX7_solveVotes 115 = .ok (.goto (-85), 3) := by decide +kernel
set_option maxRecDepth 20000 in
theorem dX7_solveVotes_118 : decode cX7_solveVotes 118 = .ok (.iinc 4 1, 3) := by decide +kernel
set_option maxRecDepth 20000 in
theorem dX7_solveVotes_121 : decode cX7_solveVotes 121 = .ok (.goto (-118), 3) := by decide +kernel
set_option maxRecDepth 20000 in
theorem dX7_solveVotes_124 : decode cX7_solveVotes 124 = .ok (.aload_n 0, 1) := by decide +kernel
set_option maxRecDepth 20000 in
theorem dX7_solveVotes_125 : decode cX7_solveVotes 125 = .ok (.getfield 28, 3) := by decide +kernel
set_option maxRecDepth 20000 in
theorem dX7_solveVotes_128 : decode cX7_solveVotes 128 = .ok (.invokevirtual 201, 3) := by decide +kernel
set_option maxRecDepth 20000 in
theorem dX7_solveVotes_131 : decode cX7_solveVotes 131 = .ok (.return_, 1) := by decide +kernel
def f_X7_solveVotes_109 (N : Nat) (c_board_askers : Int32) (c_board_places : Int32) (c_board_seats : Nat → Int32) (c_board_told : Nat → Int32) (c_board_wishes : Nat → Int32) (k30 : Int32 → Int32 → Int32 → Int32 → (Nat → Int32) → (Nat → Int32) → (Nat → Int32) → (Nat → Int32) → (Nat → Int32) → (Nat → Int32) → (Nat → Int32) → (Nat → Int32) → (Nat → Int32) → (Nat → Int32) → (Nat → Int32) → Int32 → Int32 → Int32 → Int32 → Int32 → Int32 → Option (Int32 × Int32 × Int32 × Int32 × (Nat → Int32) × (Nat → Int32) × (Nat → Int32) × (Nat → Int32) × (Nat → Int32) × (Nat → Int32) × (Nat → Int32) × (Nat → Int32) × (Nat → Int32) × (Nat → Int32) × (Nat → Int32))) (c_aimed_askers : Int32) (c_aimed_places : Int32) (c_aimed_seatBits : Int32) (c_aimed_entries : Int32) (c_aimed_best : Nat → Int32) (c_aimed_clipAll : Nat → Int32) (c_aimed_clipToOne : Nat → Int32) (c_aimed_clipToTwo : Nat → Int32) (c_aimed_firstOf : Nat → Int32) (c_aimed_gains : Nat → Int32) (c_aimed_left : Nat → Int32) (c_aimed_next : Nat → Int32) (c_aimed_solvedGains : Nat → Int32) (c_aimed_ways : Nat → Int32) (c_all_slots : Nat → Int32) (v1 : Int32) (v2 : Int32) (v3 : Int32) (v4 : Int32) (v5 : Int32) (v6 : Int32) (s1 : Int32) (s2 : Int32) (s3 : Int32) : Option (Int32 × Int32 × Int32 × Int32 × (Nat → Int32) × (Nat → Int32) × (Nat → Int32) × (Nat → Int32) × (Nat → Int32) × (Nat → Int32) × (Nat → Int32) × (Nat → Int32) × (Nat → Int32) × (Nat → Int32) × (Nat → Int32)) :=
    (f_X4_setGain N c_aimed_gains s1 s2 s3).bind fun o1 =>
    k30 c_aimed_askers c_aimed_places c_aimed_seatBits c_aimed_entries c_aimed_best c_aimed_clipAll c_aimed_clipToOne c_aimed_clipToTwo c_aimed_firstOf o1 c_aimed_left c_aimed_next c_aimed_solvedGains c_aimed_ways c_all_slots v1 v2 v3 v4 v5 (v6 + 1)
set_option maxHeartbeats 4000000 in
set_option maxRecDepth 100000 in
theorem g_X7_solveVotes_109 {κ : KC} {ω : KW} {A : Nat → Prop} {ad : Nat → Nat} {u_above : Int64} {u_below : Int64} {u_board_age : Int32} {N : Nat} {c_board_askers : Int32} {c_board_places : Int32} {c_board_seats : Nat → Int32} {c_board_told : Nat → Int32} {c_board_wishes : Nat → Int32}  {k30 : Int32 → Int32 → Int32 → Int32 → (Nat → Int32) → (Nat → Int32) → (Nat → Int32) → (Nat → Int32) → (Nat → Int32) → (Nat → Int32) → (Nat → Int32) → (Nat → Int32) → (Nat → Int32) → (Nat → Int32) → (Nat → Int32) → Int32 → Int32 → Int32 → Int32 → Int32 → Int32 → Option (Int32 × Int32 × Int32 × Int32 × (Nat → Int32) × (Nat → Int32) × (Nat → Int32) × (Nat → Int32) × (Nat → Int32) × (Nat → Int32) × (Nat → Int32) × (Nat → Int32) × (Nat → Int32) × (Nat → Int32) × (Nat → Int32))} {res : Int32 × Int32 × Int32 × Int32 × (Nat → Int32) × (Nat → Int32) × (Nat → Int32) × (Nat → Int32) × (Nat → Int32) × (Nat → Int32) × (Nat → Int32) × (Nat → Int32) × (Nat → Int32) × (Nat → Int32) × (Nat → Int32)} (hk30 : ∀ {c_aimed_askers : Int32} {c_aimed_places : Int32} {c_aimed_seatBits : Int32} {c_aimed_entries : Int32} {c_aimed_best : Nat → Int32} {c_aimed_clipAll : Nat → Int32} {c_aimed_clipToOne : Nat → Int32} {c_aimed_clipToTwo : Nat → Int32} {c_aimed_firstOf : Nat → Int32} {c_aimed_gains : Nat → Int32} {c_aimed_left : Nat → Int32} {c_aimed_next : Nat → Int32} {c_aimed_solvedGains : Nat → Int32} {c_aimed_ways : Nat → Int32} {c_all_slots : Nat → Int32} {v1 : Int32} {v2 : Int32} {v3 : Int32} {v4 : Int32} {v5 : Int32} {v6 : Int32}, k30 c_aimed_askers c_aimed_places c_aimed_seatBits c_aimed_entries c_aimed_best c_aimed_clipAll c_aimed_clipToOne c_aimed_clipToTwo c_aimed_firstOf c_aimed_gains c_aimed_left c_aimed_next c_aimed_solvedGains c_aimed_ways c_all_slots v1 v2 v3 v4 v5 v6 = some res → GG mu_X7_solveVotes κ ω A (QR κ ω A ad (none) (w_X7_solveVotes res.1 res.2.1 res.2.2.1 res.2.2.2.1 c_board_askers c_board_places res.2.2.2.2.1 res.2.2.2.2.2.1 res.2.2.2.2.2.2.1 res.2.2.2.2.2.2.2.1 res.2.2.2.2.2.2.2.2.1 res.2.2.2.2.2.2.2.2.2.1 res.2.2.2.2.2.2.2.2.2.2.1 res.2.2.2.2.2.2.2.2.2.2.2.1 res.2.2.2.2.2.2.2.2.2.2.2.2.1 res.2.2.2.2.2.2.2.2.2.2.2.2.2.1 res.2.2.2.2.2.2.2.2.2.2.2.2.2.2 c_board_seats c_board_told c_board_wishes u_above u_below u_board_age)) ad 0 0 30 (w_X7_solveVotes c_aimed_askers c_aimed_places c_aimed_seatBits c_aimed_entries c_board_askers c_board_places c_aimed_best c_aimed_clipAll c_aimed_clipToOne c_aimed_clipToTwo c_aimed_firstOf c_aimed_gains c_aimed_left c_aimed_next c_aimed_solvedGains c_aimed_ways c_all_slots c_board_seats c_board_told c_board_wishes u_above u_below u_board_age) [some (.ref 0), some (.int v1), some (.int v2), some (.int v3), some (.int v4), some (.int v5), some (.int v6), none, none] []) {c_aimed_askers : Int32} {c_aimed_places : Int32} {c_aimed_seatBits : Int32} {c_aimed_entries : Int32} {c_aimed_best : Nat → Int32} {c_aimed_clipAll : Nat → Int32} {c_aimed_clipToOne : Nat → Int32} {c_aimed_clipToTwo : Nat → Int32} {c_aimed_firstOf : Nat → Int32} {c_aimed_gains : Nat → Int32} {c_aimed_left : Nat → Int32} {c_aimed_next : Nat → Int32} {c_aimed_solvedGains : Nat → Int32} {c_aimed_ways : Nat → Int32} {c_all_slots : Nat → Int32} {v1 : Int32} {v2 : Int32} {v3 : Int32} {v4 : Int32} {v5 : Int32} {v6 : Int32} {s1 : Int32} {s2 : Int32} {s3 : Int32} (hf : f_X7_solveVotes_109 N c_board_askers c_board_places c_board_seats c_board_told c_board_wishes k30 c_aimed_askers c_aimed_places c_aimed_seatBits c_aimed_entries c_aimed_best c_aimed_clipAll c_aimed_clipToOne c_aimed_clipToTwo c_aimed_firstOf c_aimed_gains c_aimed_left c_aimed_next c_aimed_solvedGains c_aimed_ways c_all_slots v1 v2 v3 v4 v5 v6 s1 s2 s3 = some res) : GG mu_X7_solveVotes κ ω A (QR κ ω A ad (none) (w_X7_solveVotes res.1 res.2.1 res.2.2.1 res.2.2.2.1 c_board_askers c_board_places res.2.2.2.2.1 res.2.2.2.2.2.1 res.2.2.2.2.2.2.1 res.2.2.2.2.2.2.2.1 res.2.2.2.2.2.2.2.2.1 res.2.2.2.2.2.2.2.2.2.1 res.2.2.2.2.2.2.2.2.2.2.1 res.2.2.2.2.2.2.2.2.2.2.2.1 res.2.2.2.2.2.2.2.2.2.2.2.2.1 res.2.2.2.2.2.2.2.2.2.2.2.2.2.1 res.2.2.2.2.2.2.2.2.2.2.2.2.2.2 c_board_seats c_board_told c_board_wishes u_above u_below u_board_age)) ad 0 0 109 (w_X7_solveVotes c_aimed_askers c_aimed_places c_aimed_seatBits c_aimed_entries c_board_askers c_board_places c_aimed_best c_aimed_clipAll c_aimed_clipToOne c_aimed_clipToTwo c_aimed_firstOf c_aimed_gains c_aimed_left c_aimed_next c_aimed_solvedGains c_aimed_ways c_all_slots c_board_seats c_board_told c_board_wishes u_above u_below u_board_age) [some (.ref 0), some (.int v1), some (.int v2), some (.int v3), some (.int v4), some (.int v5), some (.int v6), none, none] [.int s3, .int s2, .int s1, .ref 1] := by
  obtain ⟨o1, hc2, hf⟩ := ob hf
  refine G_callV (μ2 := mu_X4_setGain) (As := [.int s1, .int s2, .int s3]) (w2 := (w_X7_solveVotes c_aimed_askers c_aimed_places c_aimed_seatBits c_aimed_entries c_board_askers c_board_places c_aimed_best c_aimed_clipAll c_aimed_clipToOne c_aimed_clipToTwo c_aimed_firstOf o1 c_aimed_left c_aimed_next c_aimed_solvedGains c_aimed_ways c_all_slots c_board_seats c_board_told c_board_wishes u_above u_below u_board_age)) (wc := (w_X4_setGain c_aimed_gains c_aimed_askers c_aimed_places c_aimed_seatBits c_aimed_entries)) (wc2 := (w_X4_setGain o1 c_aimed_askers c_aimed_places c_aimed_seatBits c_aimed_entries)) (rest := []) (rv := []) [1, 8] [2, 11, 9, 3, 12, 10, 7, 13, 4, 5, 6] [0, 2, 3, 4, 5, 6, 7, 9, 10, 11, 12, 13, 14, 15, 16] [0, 15, 1, 2, 3, 4, 5, 6, 16, 7, 8, 9, 10, 11, 12, 13, 14] (c_X4_setGain hc2) cw_X4_setGain m_X7_296 dX7_solveVotes_109 rfl ⟨leb rfl, leb rfl⟩ ⟨rfl, rfl⟩ rfl ⟨_, rfl, rfl⟩ (Fit.mk rfl rfl rfl) rfl (leb rfl) (ROsub.nil rfl rfl) rfl ?_
  change GG _ _ _ _ _ _ _ _ _ (w_X7_solveVotes c_aimed_askers c_aimed_places c_aimed_seatBits c_aimed_entries c_board_askers c_board_places c_aimed_best c_aimed_clipAll c_aimed_clipToOne c_aimed_clipToTwo c_aimed_firstOf o1 c_aimed_left c_aimed_next c_aimed_solvedGains c_aimed_ways c_all_slots c_board_seats c_board_told c_board_wishes u_above u_below u_board_age) [some (.ref 0), some (.int v1), some (.int v2), some (.int v3), some (.int v4), some (.int v5), some (.int v6), none, none] []
  refine G_iinc 1 dX7_solveVotes_112 (by decide) rfl (ltb rfl) ?_
  change GG _ _ _ _ _ _ _ _ _ _ [some (.ref 0), some (.int v1), some (.int v2), some (.int v3), some (.int v4), some (.int v5), some (.int (v6 + 1)), none, none] _
  refine G_goto 30 dX7_solveVotes_115 (by decide) ?_
  exact hk30 hf
def f_X7_solveVotes_78 (N : Nat) (c_board_askers : Int32) (c_board_places : Int32) (c_board_seats : Nat → Int32) (c_board_told : Nat → Int32) (c_board_wishes : Nat → Int32) (k30 : Int32 → Int32 → Int32 → Int32 → (Nat → Int32) → (Nat → Int32) → (Nat → Int32) → (Nat → Int32) → (Nat → Int32) → (Nat → Int32) → (Nat → Int32) → (Nat → Int32) → (Nat → Int32) → (Nat → Int32) → (Nat → Int32) → Int32 → Int32 → Int32 → Int32 → Int32 → Int32 → Option (Int32 × Int32 × Int32 × Int32 × (Nat → Int32) × (Nat → Int32) × (Nat → Int32) × (Nat → Int32) × (Nat → Int32) × (Nat → Int32) × (Nat → Int32) × (Nat → Int32) × (Nat → Int32) × (Nat → Int32) × (Nat → Int32))) (c_aimed_askers : Int32) (c_aimed_places : Int32) (c_aimed_seatBits : Int32) (c_aimed_entries : Int32) (c_aimed_best : Nat → Int32) (c_aimed_clipAll : Nat → Int32) (c_aimed_clipToOne : Nat → Int32) (c_aimed_clipToTwo : Nat → Int32) (c_aimed_firstOf : Nat → Int32) (c_aimed_gains : Nat → Int32) (c_aimed_left : Nat → Int32) (c_aimed_next : Nat → Int32) (c_aimed_solvedGains : Nat → Int32) (c_aimed_ways : Nat → Int32) (c_all_slots : Nat → Int32) (v1 : Int32) (v2 : Int32) (v3 : Int32) (v4 : Int32) (v5 : Int32) (v6 : Int32) (s0 : Int32) : Option (Int32 × Int32 × Int32 × Int32 × (Nat → Int32) × (Nat → Int32) × (Nat → Int32) × (Nat → Int32) × (Nat → Int32) × (Nat → Int32) × (Nat → Int32) × (Nat → Int32) × (Nat → Int32) × (Nat → Int32) × (Nat → Int32)) :=
    (f_X0_isOpen N c_board_wishes v4 v6).bind fun r1 =>
    (if r1 = 0 then
      f_X7_solveVotes_109 N c_board_askers c_board_places c_board_seats c_board_told c_board_wishes k30 c_aimed_askers c_aimed_places c_aimed_seatBits c_aimed_entries c_aimed_best c_aimed_clipAll c_aimed_clipToOne c_aimed_clipToTwo c_aimed_firstOf c_aimed_gains c_aimed_left c_aimed_next c_aimed_solvedGains c_aimed_ways c_all_slots v1 v2 v3 v4 v5 v6 v4 v6 (-2000000000 : Int32)
    else
      f_X7_solveVotes_109 N c_board_askers c_board_places c_board_seats c_board_told c_board_wishes k30 c_aimed_askers c_aimed_places c_aimed_seatBits c_aimed_entries c_aimed_best c_aimed_clipAll c_aimed_clipToOne c_aimed_clipToTwo c_aimed_firstOf c_aimed_gains c_aimed_left c_aimed_next c_aimed_solvedGains c_aimed_ways c_all_slots v1 v2 v3 v4 v5 v6 v4 v6 s0)
set_option maxHeartbeats 4000000 in
set_option maxRecDepth 100000 in
theorem g_X7_solveVotes_78 {κ : KC} {ω : KW} {A : Nat → Prop} {ad : Nat → Nat} {u_above : Int64} {u_below : Int64} {u_board_age : Int32} {N : Nat} {c_board_askers : Int32} {c_board_places : Int32} {c_board_seats : Nat → Int32} {c_board_told : Nat → Int32} {c_board_wishes : Nat → Int32}  {k30 : Int32 → Int32 → Int32 → Int32 → (Nat → Int32) → (Nat → Int32) → (Nat → Int32) → (Nat → Int32) → (Nat → Int32) → (Nat → Int32) → (Nat → Int32) → (Nat → Int32) → (Nat → Int32) → (Nat → Int32) → (Nat → Int32) → Int32 → Int32 → Int32 → Int32 → Int32 → Int32 → Option (Int32 × Int32 × Int32 × Int32 × (Nat → Int32) × (Nat → Int32) × (Nat → Int32) × (Nat → Int32) × (Nat → Int32) × (Nat → Int32) × (Nat → Int32) × (Nat → Int32) × (Nat → Int32) × (Nat → Int32) × (Nat → Int32))} {res : Int32 × Int32 × Int32 × Int32 × (Nat → Int32) × (Nat → Int32) × (Nat → Int32) × (Nat → Int32) × (Nat → Int32) × (Nat → Int32) × (Nat → Int32) × (Nat → Int32) × (Nat → Int32) × (Nat → Int32) × (Nat → Int32)} (hk30 : ∀ {c_aimed_askers : Int32} {c_aimed_places : Int32} {c_aimed_seatBits : Int32} {c_aimed_entries : Int32} {c_aimed_best : Nat → Int32} {c_aimed_clipAll : Nat → Int32} {c_aimed_clipToOne : Nat → Int32} {c_aimed_clipToTwo : Nat → Int32} {c_aimed_firstOf : Nat → Int32} {c_aimed_gains : Nat → Int32} {c_aimed_left : Nat → Int32} {c_aimed_next : Nat → Int32} {c_aimed_solvedGains : Nat → Int32} {c_aimed_ways : Nat → Int32} {c_all_slots : Nat → Int32} {v1 : Int32} {v2 : Int32} {v3 : Int32} {v4 : Int32} {v5 : Int32} {v6 : Int32}, k30 c_aimed_askers c_aimed_places c_aimed_seatBits c_aimed_entries c_aimed_best c_aimed_clipAll c_aimed_clipToOne c_aimed_clipToTwo c_aimed_firstOf c_aimed_gains c_aimed_left c_aimed_next c_aimed_solvedGains c_aimed_ways c_all_slots v1 v2 v3 v4 v5 v6 = some res → GG mu_X7_solveVotes κ ω A (QR κ ω A ad (none) (w_X7_solveVotes res.1 res.2.1 res.2.2.1 res.2.2.2.1 c_board_askers c_board_places res.2.2.2.2.1 res.2.2.2.2.2.1 res.2.2.2.2.2.2.1 res.2.2.2.2.2.2.2.1 res.2.2.2.2.2.2.2.2.1 res.2.2.2.2.2.2.2.2.2.1 res.2.2.2.2.2.2.2.2.2.2.1 res.2.2.2.2.2.2.2.2.2.2.2.1 res.2.2.2.2.2.2.2.2.2.2.2.2.1 res.2.2.2.2.2.2.2.2.2.2.2.2.2.1 res.2.2.2.2.2.2.2.2.2.2.2.2.2.2 c_board_seats c_board_told c_board_wishes u_above u_below u_board_age)) ad 0 0 30 (w_X7_solveVotes c_aimed_askers c_aimed_places c_aimed_seatBits c_aimed_entries c_board_askers c_board_places c_aimed_best c_aimed_clipAll c_aimed_clipToOne c_aimed_clipToTwo c_aimed_firstOf c_aimed_gains c_aimed_left c_aimed_next c_aimed_solvedGains c_aimed_ways c_all_slots c_board_seats c_board_told c_board_wishes u_above u_below u_board_age) [some (.ref 0), some (.int v1), some (.int v2), some (.int v3), some (.int v4), some (.int v5), some (.int v6), none, none] []) {c_aimed_askers : Int32} {c_aimed_places : Int32} {c_aimed_seatBits : Int32} {c_aimed_entries : Int32} {c_aimed_best : Nat → Int32} {c_aimed_clipAll : Nat → Int32} {c_aimed_clipToOne : Nat → Int32} {c_aimed_clipToTwo : Nat → Int32} {c_aimed_firstOf : Nat → Int32} {c_aimed_gains : Nat → Int32} {c_aimed_left : Nat → Int32} {c_aimed_next : Nat → Int32} {c_aimed_solvedGains : Nat → Int32} {c_aimed_ways : Nat → Int32} {c_all_slots : Nat → Int32} {v1 : Int32} {v2 : Int32} {v3 : Int32} {v4 : Int32} {v5 : Int32} {v6 : Int32} {s0 : Int32} (hf : f_X7_solveVotes_78 N c_board_askers c_board_places c_board_seats c_board_told c_board_wishes k30 c_aimed_askers c_aimed_places c_aimed_seatBits c_aimed_entries c_aimed_best c_aimed_clipAll c_aimed_clipToOne c_aimed_clipToTwo c_aimed_firstOf c_aimed_gains c_aimed_left c_aimed_next c_aimed_solvedGains c_aimed_ways c_all_slots v1 v2 v3 v4 v5 v6 s0 = some res) : GG mu_X7_solveVotes κ ω A (QR κ ω A ad (none) (w_X7_solveVotes res.1 res.2.1 res.2.2.1 res.2.2.2.1 c_board_askers c_board_places res.2.2.2.2.1 res.2.2.2.2.2.1 res.2.2.2.2.2.2.1 res.2.2.2.2.2.2.2.1 res.2.2.2.2.2.2.2.2.1 res.2.2.2.2.2.2.2.2.2.1 res.2.2.2.2.2.2.2.2.2.2.1 res.2.2.2.2.2.2.2.2.2.2.2.1 res.2.2.2.2.2.2.2.2.2.2.2.2.1 res.2.2.2.2.2.2.2.2.2.2.2.2.2.1 res.2.2.2.2.2.2.2.2.2.2.2.2.2.2 c_board_seats c_board_told c_board_wishes u_above u_below u_board_age)) ad 0 0 78 (w_X7_solveVotes c_aimed_askers c_aimed_places c_aimed_seatBits c_aimed_entries c_board_askers c_board_places c_aimed_best c_aimed_clipAll c_aimed_clipToOne c_aimed_clipToTwo c_aimed_firstOf c_aimed_gains c_aimed_left c_aimed_next c_aimed_solvedGains c_aimed_ways c_all_slots c_board_seats c_board_told c_board_wishes u_above u_below u_board_age) [some (.ref 0), some (.int v1), some (.int v2), some (.int v3), some (.int v4), some (.int v5), some (.int v6), none, none] [.int s0] := by
  refine G_istore dX7_solveVotes_78 (ltb rfl) ?_
  change GG _ _ _ _ _ _ _ _ _ _ [some (.ref 0), some (.int v1), some (.int v2), some (.int v3), some (.int v4), some (.int v5), some (.int v6), none, some (.int s0)] _
  refine G_aload_n dX7_solveVotes_80 rfl rfl ?_
  refine G_get (v := .ref 1) F_X7_28 dX7_solveVotes_81 rfl rfl ?_
  refine G_iload dX7_solveVotes_84 rfl ?_
  refine G_iload dX7_solveVotes_86 rfl ?_
  refine G_aload_n dX7_solveVotes_88 rfl rfl ?_
  refine G_get (v := .ref 2) F_X7_10 dX7_solveVotes_89 rfl rfl ?_
  refine G_iload dX7_solveVotes_92 rfl ?_
  refine G_iload dX7_solveVotes_94 rfl ?_
  obtain ⟨r1, hc2, hf⟩ := ob hf
  refine G_callV (μ2 := mu_X0_isOpen) (As := [.int v4, .int v6]) (w2 := (w_X7_solveVotes c_aimed_askers c_aimed_places c_aimed_seatBits c_aimed_entries c_board_askers c_board_places c_aimed_best c_aimed_clipAll c_aimed_clipToOne c_aimed_clipToTwo c_aimed_firstOf c_aimed_gains c_aimed_left c_aimed_next c_aimed_solvedGains c_aimed_ways c_all_slots c_board_seats c_board_told c_board_wishes u_above u_below u_board_age)) (wc := (w_X0_isOpen c_board_wishes c_board_askers c_board_places u_board_age)) (wc2 := (w_X0_isOpen c_board_wishes c_board_askers c_board_places u_board_age)) (rest := [.int v6, .int v4, .ref 1]) (rv := [.int r1]) [2, 16] [14, 1008, 15] [0, 1, 3, 4, 5, 6, 7, 8, 9, 10, 11, 12, 13, 14, 15] [0, 1, 15, 2, 3, 4, 5, 6, 7, 8, 9, 10, 11, 12, 13, 14, 16] (c_X0_isOpen hc2) cw_X0_isOpen m_X7_292 dX7_solveVotes_96 rfl ⟨leb rfl, leb rfl⟩ ⟨rfl, rfl⟩ rfl ⟨_, rfl, rfl⟩ (Fit.mk rfl rfl rfl) rfl (leb rfl) (ROsub.nil rfl rfl) rfl ?_
  change GG _ _ _ _ _ _ _ _ _ (w_X7_solveVotes c_aimed_askers c_aimed_places c_aimed_seatBits c_aimed_entries c_board_askers c_board_places c_aimed_best c_aimed_clipAll c_aimed_clipToOne c_aimed_clipToTwo c_aimed_firstOf c_aimed_gains c_aimed_left c_aimed_next c_aimed_solvedGains c_aimed_ways c_all_slots c_board_seats c_board_told c_board_wishes u_above u_below u_board_age) [some (.ref 0), some (.int v1), some (.int v2), some (.int v3), some (.int v4), some (.int v5), some (.int v6), none, some (.int s0)] [.int r1, .int v6, .int v4, .ref 1]
  refine G_if_eq 107 dX7_solveVotes_99 (by decide) (fun h3 => ?_) (fun h3 => ?_)
  · replace hf := ob_t h3 hf
    refine G_ldc (v := (-2000000000 : Int32)) dX7_solveVotes_107 k_X7_193 ?_
    refine GG.sb (lv2 := [some (.ref 0), some (.int v1), some (.int v2), some (.int v3), some (.int v4), some (.int v5), some (.int v6), none, none]) ?_ (lvS_v rfl (lvS_v rfl (lvS_v rfl (lvS_v rfl (lvS_v rfl (lvS_v rfl (lvS_v rfl (lvS_n (lvS_n (lvS_e))))))))))
    exact g_X7_solveVotes_109 hk30 hf
  · replace hf := ob_f h3 hf
    refine G_iload dX7_solveVotes_102 rfl ?_
    refine G_goto 109 dX7_solveVotes_104 (by decide) ?_
    refine GG.sb (lv2 := [some (.ref 0), some (.int v1), some (.int v2), some (.int v3), some (.int v4), some (.int v5), some (.int v6), none, none]) ?_ (lvS_v rfl (lvS_v rfl (lvS_v rfl (lvS_v rfl (lvS_v rfl (lvS_v rfl (lvS_v rfl (lvS_n (lvS_n (lvS_e))))))))))
    exact g_X7_solveVotes_109 hk30 hf
def f_X7_solveVotes_30 (N : Nat) (c_board_askers : Int32) (c_board_places : Int32) (c_board_seats : Nat → Int32) (c_board_told : Nat → Int32) (c_board_wishes : Nat → Int32) (k3 : Int32 → Int32 → Int32 → Int32 → (Nat → Int32) → (Nat → Int32) → (Nat → Int32) → (Nat → Int32) → (Nat → Int32) → (Nat → Int32) → (Nat → Int32) → (Nat → Int32) → (Nat → Int32) → (Nat → Int32) → (Nat → Int32) → Int32 → Int32 → Int32 → Int32 → Option (Int32 × Int32 × Int32 × Int32 × (Nat → Int32) × (Nat → Int32) × (Nat → Int32) × (Nat → Int32) × (Nat → Int32) × (Nat → Int32) × (Nat → Int32) × (Nat → Int32) × (Nat → Int32) × (Nat → Int32) × (Nat → Int32))) : Nat → Int32 → Int32 → Int32 → Int32 → (Nat → Int32) → (Nat → Int32) → (Nat → Int32) → (Nat → Int32) → (Nat → Int32) → (Nat → Int32) → (Nat → Int32) → (Nat → Int32) → (Nat → Int32) → (Nat → Int32) → (Nat → Int32) → Int32 → Int32 → Int32 → Int32 → Int32 → Int32 → Option (Int32 × Int32 × Int32 × Int32 × (Nat → Int32) × (Nat → Int32) × (Nat → Int32) × (Nat → Int32) × (Nat → Int32) × (Nat → Int32) × (Nat → Int32) × (Nat → Int32) × (Nat → Int32) × (Nat → Int32) × (Nat → Int32))
  | 0, _, _, _, _, _, _, _, _, _, _, _, _, _, _, _, _, _, _, _, _, _ => none
  | n + 1, c_aimed_askers, c_aimed_places, c_aimed_seatBits, c_aimed_entries, c_aimed_best, c_aimed_clipAll, c_aimed_clipToOne, c_aimed_clipToTwo, c_aimed_firstOf, c_aimed_gains, c_aimed_left, c_aimed_next, c_aimed_solvedGains, c_aimed_ways, c_all_slots, v1, v2, v3, v4, v5, v6 =>
    (if c_board_places ≤ v6 then
      k3 c_aimed_askers c_aimed_places c_aimed_seatBits c_aimed_entries c_aimed_best c_aimed_clipAll c_aimed_clipToOne c_aimed_clipToTwo c_aimed_firstOf c_aimed_gains c_aimed_left c_aimed_next c_aimed_solvedGains c_aimed_ways c_all_slots v1 v2 v3 (v4 + 1)
    else
      (f_X0_worthOf N c_board_wishes v4 v6).bind fun r2 =>
      (if v5 ≤ r2 then
        (if r2 ≤ v5 then
          f_X7_solveVotes_78 N c_board_askers c_board_places c_board_seats c_board_told c_board_wishes (f_X7_solveVotes_30 N c_board_askers c_board_places c_board_seats c_board_told c_board_wishes k3 n) c_aimed_askers c_aimed_places c_aimed_seatBits c_aimed_entries c_aimed_best c_aimed_clipAll c_aimed_clipToOne c_aimed_clipToTwo c_aimed_firstOf c_aimed_gains c_aimed_left c_aimed_next c_aimed_solvedGains c_aimed_ways c_all_slots v1 v2 v3 v4 v5 v6 0
        else
          f_X7_solveVotes_78 N c_board_askers c_board_places c_board_seats c_board_told c_board_wishes (f_X7_solveVotes_30 N c_board_askers c_board_places c_board_seats c_board_told c_board_wishes k3 n) c_aimed_askers c_aimed_places c_aimed_seatBits c_aimed_entries c_aimed_best c_aimed_clipAll c_aimed_clipToOne c_aimed_clipToTwo c_aimed_firstOf c_aimed_gains c_aimed_left c_aimed_next c_aimed_solvedGains c_aimed_ways c_all_slots v1 v2 v3 v4 v5 v6 v3)
      else
        f_X7_solveVotes_78 N c_board_askers c_board_places c_board_seats c_board_told c_board_wishes (f_X7_solveVotes_30 N c_board_askers c_board_places c_board_seats c_board_told c_board_wishes k3 n) c_aimed_askers c_aimed_places c_aimed_seatBits c_aimed_entries c_aimed_best c_aimed_clipAll c_aimed_clipToOne c_aimed_clipToTwo c_aimed_firstOf c_aimed_gains c_aimed_left c_aimed_next c_aimed_solvedGains c_aimed_ways c_all_slots v1 v2 v3 v4 v5 v6 v2))
set_option maxHeartbeats 4000000 in
set_option maxRecDepth 100000 in
theorem g_X7_solveVotes_30 {κ : KC} {ω : KW} {A : Nat → Prop} {ad : Nat → Nat} {u_above : Int64} {u_below : Int64} {u_board_age : Int32} {N : Nat} {c_board_askers : Int32} {c_board_places : Int32} {c_board_seats : Nat → Int32} {c_board_told : Nat → Int32} {c_board_wishes : Nat → Int32}  {k3 : Int32 → Int32 → Int32 → Int32 → (Nat → Int32) → (Nat → Int32) → (Nat → Int32) → (Nat → Int32) → (Nat → Int32) → (Nat → Int32) → (Nat → Int32) → (Nat → Int32) → (Nat → Int32) → (Nat → Int32) → (Nat → Int32) → Int32 → Int32 → Int32 → Int32 → Option (Int32 × Int32 × Int32 × Int32 × (Nat → Int32) × (Nat → Int32) × (Nat → Int32) × (Nat → Int32) × (Nat → Int32) × (Nat → Int32) × (Nat → Int32) × (Nat → Int32) × (Nat → Int32) × (Nat → Int32) × (Nat → Int32))} {res : Int32 × Int32 × Int32 × Int32 × (Nat → Int32) × (Nat → Int32) × (Nat → Int32) × (Nat → Int32) × (Nat → Int32) × (Nat → Int32) × (Nat → Int32) × (Nat → Int32) × (Nat → Int32) × (Nat → Int32) × (Nat → Int32)} (hk3 : ∀ {c_aimed_askers : Int32} {c_aimed_places : Int32} {c_aimed_seatBits : Int32} {c_aimed_entries : Int32} {c_aimed_best : Nat → Int32} {c_aimed_clipAll : Nat → Int32} {c_aimed_clipToOne : Nat → Int32} {c_aimed_clipToTwo : Nat → Int32} {c_aimed_firstOf : Nat → Int32} {c_aimed_gains : Nat → Int32} {c_aimed_left : Nat → Int32} {c_aimed_next : Nat → Int32} {c_aimed_solvedGains : Nat → Int32} {c_aimed_ways : Nat → Int32} {c_all_slots : Nat → Int32} {v1 : Int32} {v2 : Int32} {v3 : Int32} {v4 : Int32}, k3 c_aimed_askers c_aimed_places c_aimed_seatBits c_aimed_entries c_aimed_best c_aimed_clipAll c_aimed_clipToOne c_aimed_clipToTwo c_aimed_firstOf c_aimed_gains c_aimed_left c_aimed_next c_aimed_solvedGains c_aimed_ways c_all_slots v1 v2 v3 v4 = some res → GG mu_X7_solveVotes κ ω A (QR κ ω A ad (none) (w_X7_solveVotes res.1 res.2.1 res.2.2.1 res.2.2.2.1 c_board_askers c_board_places res.2.2.2.2.1 res.2.2.2.2.2.1 res.2.2.2.2.2.2.1 res.2.2.2.2.2.2.2.1 res.2.2.2.2.2.2.2.2.1 res.2.2.2.2.2.2.2.2.2.1 res.2.2.2.2.2.2.2.2.2.2.1 res.2.2.2.2.2.2.2.2.2.2.2.1 res.2.2.2.2.2.2.2.2.2.2.2.2.1 res.2.2.2.2.2.2.2.2.2.2.2.2.2.1 res.2.2.2.2.2.2.2.2.2.2.2.2.2.2 c_board_seats c_board_told c_board_wishes u_above u_below u_board_age)) ad 0 0 3 (w_X7_solveVotes c_aimed_askers c_aimed_places c_aimed_seatBits c_aimed_entries c_board_askers c_board_places c_aimed_best c_aimed_clipAll c_aimed_clipToOne c_aimed_clipToTwo c_aimed_firstOf c_aimed_gains c_aimed_left c_aimed_next c_aimed_solvedGains c_aimed_ways c_all_slots c_board_seats c_board_told c_board_wishes u_above u_below u_board_age) [some (.ref 0), some (.int v1), some (.int v2), some (.int v3), some (.int v4), none, none, none, none] []) : ∀ (n : Nat) {c_aimed_askers : Int32} {c_aimed_places : Int32} {c_aimed_seatBits : Int32} {c_aimed_entries : Int32} {c_aimed_best : Nat → Int32} {c_aimed_clipAll : Nat → Int32} {c_aimed_clipToOne : Nat → Int32} {c_aimed_clipToTwo : Nat → Int32} {c_aimed_firstOf : Nat → Int32} {c_aimed_gains : Nat → Int32} {c_aimed_left : Nat → Int32} {c_aimed_next : Nat → Int32} {c_aimed_solvedGains : Nat → Int32} {c_aimed_ways : Nat → Int32} {c_all_slots : Nat → Int32} {v1 : Int32} {v2 : Int32} {v3 : Int32} {v4 : Int32} {v5 : Int32} {v6 : Int32}, f_X7_solveVotes_30 N c_board_askers c_board_places c_board_seats c_board_told c_board_wishes k3 n c_aimed_askers c_aimed_places c_aimed_seatBits c_aimed_entries c_aimed_best c_aimed_clipAll c_aimed_clipToOne c_aimed_clipToTwo c_aimed_firstOf c_aimed_gains c_aimed_left c_aimed_next c_aimed_solvedGains c_aimed_ways c_all_slots v1 v2 v3 v4 v5 v6 = some res → GG mu_X7_solveVotes κ ω A (QR κ ω A ad (none) (w_X7_solveVotes res.1 res.2.1 res.2.2.1 res.2.2.2.1 c_board_askers c_board_places res.2.2.2.2.1 res.2.2.2.2.2.1 res.2.2.2.2.2.2.1 res.2.2.2.2.2.2.2.1 res.2.2.2.2.2.2.2.2.1 res.2.2.2.2.2.2.2.2.2.1 res.2.2.2.2.2.2.2.2.2.2.1 res.2.2.2.2.2.2.2.2.2.2.2.1 res.2.2.2.2.2.2.2.2.2.2.2.2.1 res.2.2.2.2.2.2.2.2.2.2.2.2.2.1 res.2.2.2.2.2.2.2.2.2.2.2.2.2.2 c_board_seats c_board_told c_board_wishes u_above u_below u_board_age)) ad 0 0 30 (w_X7_solveVotes c_aimed_askers c_aimed_places c_aimed_seatBits c_aimed_entries c_board_askers c_board_places c_aimed_best c_aimed_clipAll c_aimed_clipToOne c_aimed_clipToTwo c_aimed_firstOf c_aimed_gains c_aimed_left c_aimed_next c_aimed_solvedGains c_aimed_ways c_all_slots c_board_seats c_board_told c_board_wishes u_above u_below u_board_age) [some (.ref 0), some (.int v1), some (.int v2), some (.int v3), some (.int v4), some (.int v5), some (.int v6), none, none] [] := by
  intro n
  induction n with
  | zero => intro c_aimed_askers c_aimed_places c_aimed_seatBits c_aimed_entries c_aimed_best c_aimed_clipAll c_aimed_clipToOne c_aimed_clipToTwo c_aimed_firstOf c_aimed_gains c_aimed_left c_aimed_next c_aimed_solvedGains c_aimed_ways c_all_slots v1 v2 v3 v4 v5 v6 hf; exact ob_0 hf
  | succ n ih =>
    intro c_aimed_askers c_aimed_places c_aimed_seatBits c_aimed_entries c_aimed_best c_aimed_clipAll c_aimed_clipToOne c_aimed_clipToTwo c_aimed_firstOf c_aimed_gains c_aimed_left c_aimed_next c_aimed_solvedGains c_aimed_ways c_all_slots v1 v2 v3 v4 v5 v6 hf
    refine G_iload dX7_solveVotes_30 rfl ?_
    refine G_aload_n dX7_solveVotes_32 rfl rfl ?_
    refine G_get (v := .ref 2) F_X7_10 dX7_solveVotes_33 rfl rfl ?_
    refine G_get (v := .int c_board_places) F_X7_91 dX7_solveVotes_36 rfl rfl ?_
    refine G_icmp_ge 118 dX7_solveVotes_39 (by decide) (fun h1 => ?_) (fun h1 => ?_)
    · replace hf := ob_t h1 hf
      refine G_iinc 1 dX7_solveVotes_118 (by decide) rfl (ltb rfl) ?_
      change GG _ _ _ _ _ _ _ _ _ _ [some (.ref 0), some (.int v1), some (.int v2), some (.int v3), some (.int (v4 + 1)), some (.int v5), some (.int v6), none, none] _
      refine G_goto 3 dX7_solveVotes_121 (by decide) ?_
      refine GG.sb (lv2 := [some (.ref 0), some (.int v1), some (.int v2), some (.int v3), some (.int (v4 + 1)), none, none, none, none]) ?_ (lvS_v rfl (lvS_v rfl (lvS_v rfl (lvS_v rfl (lvS_v rfl (lvS_n (lvS_n (lvS_n (lvS_n (lvS_e))))))))))
      exact hk3 hf
    · replace hf := ob_f h1 hf
      refine G_aload_n dX7_solveVotes_42 rfl rfl ?_
      refine G_get (v := .ref 2) F_X7_10 dX7_solveVotes_43 rfl rfl ?_
      refine G_iload dX7_solveVotes_46 rfl ?_
      refine G_iload dX7_solveVotes_48 rfl ?_
      obtain ⟨r2, hc3, hf⟩ := ob hf
      refine G_callV (μ2 := mu_X0_worthOf) (As := [.int v4, .int v6]) (w2 := (w_X7_solveVotes c_aimed_askers c_aimed_places c_aimed_seatBits c_aimed_entries c_board_askers c_board_places c_aimed_best c_aimed_clipAll c_aimed_clipToOne c_aimed_clipToTwo c_aimed_firstOf c_aimed_gains c_aimed_left c_aimed_next c_aimed_solvedGains c_aimed_ways c_all_slots c_board_seats c_board_told c_board_wishes u_above u_below u_board_age)) (wc := (w_X0_worthOf c_board_wishes c_board_askers c_board_places u_board_age)) (wc2 := (w_X0_worthOf c_board_wishes c_board_askers c_board_places u_board_age)) (rest := []) (rv := [.int r2]) [2, 16] [14, 1008, 15] [0, 1, 3, 4, 5, 6, 7, 8, 9, 10, 11, 12, 13, 14, 15] [0, 1, 15, 2, 3, 4, 5, 6, 7, 8, 9, 10, 11, 12, 13, 14, 16] (c_X0_worthOf hc3) cw_X0_worthOf m_X7_118 dX7_solveVotes_50 rfl ⟨leb rfl, leb rfl⟩ ⟨rfl, rfl⟩ rfl ⟨_, rfl, rfl⟩ (Fit.mk rfl rfl rfl) rfl (leb rfl) (ROsub.nil rfl rfl) rfl ?_
      change GG _ _ _ _ _ _ _ _ _ (w_X7_solveVotes c_aimed_askers c_aimed_places c_aimed_seatBits c_aimed_entries c_board_askers c_board_places c_aimed_best c_aimed_clipAll c_aimed_clipToOne c_aimed_clipToTwo c_aimed_firstOf c_aimed_gains c_aimed_left c_aimed_next c_aimed_solvedGains c_aimed_ways c_all_slots c_board_seats c_board_told c_board_wishes u_above u_below u_board_age) [some (.ref 0), some (.int v1), some (.int v2), some (.int v3), some (.int v4), some (.int v5), some (.int v6), none, none] [.int r2]
      refine G_istore dX7_solveVotes_53 (ltb rfl) ?_
      change GG _ _ _ _ _ _ _ _ _ _ [some (.ref 0), some (.int v1), some (.int v2), some (.int v3), some (.int v4), some (.int v5), some (.int v6), some (.int r2), none] _
      refine G_iload dX7_solveVotes_55 rfl ?_
      refine G_iload dX7_solveVotes_57 rfl ?_
      refine G_icmp_ge 66 dX7_solveVotes_59 (by decide) (fun h4 => ?_) (fun h4 => ?_)
      · replace hf := ob_t h4 hf
        refine G_iload dX7_solveVotes_66 rfl ?_
        refine G_iload dX7_solveVotes_68 rfl ?_
        refine G_icmp_le 77 dX7_solveVotes_70 (by decide) (fun h5 => ?_) (fun h5 => ?_)
        · replace hf := ob_t h5 hf
          refine G_iconst 0 dX7_solveVotes_77 (by decide) ?_
          refine GG.sb (lv2 := [some (.ref 0), some (.int v1), some (.int v2), some (.int v3), some (.int v4), some (.int v5), some (.int v6), none, none]) ?_ (lvS_v rfl (lvS_v rfl (lvS_v rfl (lvS_v rfl (lvS_v rfl (lvS_v rfl (lvS_v rfl (lvS_n (lvS_n (lvS_e))))))))))
          exact g_X7_solveVotes_78 ih hf
        · replace hf := ob_f h5 hf
          refine G_iload_n dX7_solveVotes_73 rfl rfl ?_
          refine G_goto 78 dX7_solveVotes_74 (by decide) ?_
          refine GG.sb (lv2 := [some (.ref 0), some (.int v1), some (.int v2), some (.int v3), some (.int v4), some (.int v5), some (.int v6), none, none]) ?_ (lvS_v rfl (lvS_v rfl (lvS_v rfl (lvS_v rfl (lvS_v rfl (lvS_v rfl (lvS_v rfl (lvS_n (lvS_n (lvS_e))))))))))
          exact g_X7_solveVotes_78 ih hf
      · replace hf := ob_f h4 hf
        refine G_iload_n dX7_solveVotes_62 rfl rfl ?_
        refine G_goto 78 dX7_solveVotes_63 (by decide) ?_
        refine GG.sb (lv2 := [some (.ref 0), some (.int v1), some (.int v2), some (.int v3), some (.int v4), some (.int v5), some (.int v6), none, none]) ?_ (lvS_v rfl (lvS_v rfl (lvS_v rfl (lvS_v rfl (lvS_v rfl (lvS_v rfl (lvS_v rfl (lvS_n (lvS_n (lvS_e))))))))))
        exact g_X7_solveVotes_78 ih hf
def f_X7_solveVotes_3 (N : Nat) (c_board_askers : Int32) (c_board_places : Int32) (c_board_seats : Nat → Int32) (c_board_told : Nat → Int32) (c_board_wishes : Nat → Int32) : Nat → Int32 → Int32 → Int32 → Int32 → (Nat → Int32) → (Nat → Int32) → (Nat → Int32) → (Nat → Int32) → (Nat → Int32) → (Nat → Int32) → (Nat → Int32) → (Nat → Int32) → (Nat → Int32) → (Nat → Int32) → (Nat → Int32) → Int32 → Int32 → Int32 → Int32 → Option (Int32 × Int32 × Int32 × Int32 × (Nat → Int32) × (Nat → Int32) × (Nat → Int32) × (Nat → Int32) × (Nat → Int32) × (Nat → Int32) × (Nat → Int32) × (Nat → Int32) × (Nat → Int32) × (Nat → Int32) × (Nat → Int32))
  | 0, _, _, _, _, _, _, _, _, _, _, _, _, _, _, _, _, _, _, _ => none
  | n + 1, c_aimed_askers, c_aimed_places, c_aimed_seatBits, c_aimed_entries, c_aimed_best, c_aimed_clipAll, c_aimed_clipToOne, c_aimed_clipToTwo, c_aimed_firstOf, c_aimed_gains, c_aimed_left, c_aimed_next, c_aimed_solvedGains, c_aimed_ways, c_all_slots, v1, v2, v3, v4 =>
    (if c_board_askers ≤ v4 then
      (f_X4_solve N c_board_askers c_board_places c_aimed_gains c_board_seats c_aimed_askers c_aimed_places c_aimed_seatBits c_aimed_entries c_aimed_best c_aimed_clipAll c_aimed_clipToOne c_aimed_clipToTwo c_aimed_firstOf c_aimed_left c_aimed_next c_all_slots c_aimed_solvedGains c_aimed_ways).bind fun (o2, o3, o4, o5, o6, o7, o8, o9, o10, o11, o12, o13, o14, o15) =>
      some (o2, o3, o4, o5, o6, o7, o8, o9, o10, c_aimed_gains, o11, o12, o14, o15, o13)
    else
      (f_X0_toldWorth N c_board_told c_board_wishes v1 v4).bind fun r17 =>
      f_X7_solveVotes_30 N c_board_askers c_board_places c_board_seats c_board_told c_board_wishes (f_X7_solveVotes_3 N c_board_askers c_board_places c_board_seats c_board_told c_board_wishes n) N c_aimed_askers c_aimed_places c_aimed_seatBits c_aimed_entries c_aimed_best c_aimed_clipAll c_aimed_clipToOne c_aimed_clipToTwo c_aimed_firstOf c_aimed_gains c_aimed_left c_aimed_next c_aimed_solvedGains c_aimed_ways c_all_slots v1 v2 v3 v4 r17 (-1 : Int32))
set_option maxHeartbeats 4000000 in
set_option maxRecDepth 100000 in
theorem g_X7_solveVotes_3 {κ : KC} {ω : KW} {A : Nat → Prop} {ad : Nat → Nat} {u_above : Int64} {u_below : Int64} {u_board_age : Int32} {N : Nat} {c_board_askers : Int32} {c_board_places : Int32} {c_board_seats : Nat → Int32} {c_board_told : Nat → Int32} {c_board_wishes : Nat → Int32}  {res : Int32 × Int32 × Int32 × Int32 × (Nat → Int32) × (Nat → Int32) × (Nat → Int32) × (Nat → Int32) × (Nat → Int32) × (Nat → Int32) × (Nat → Int32) × (Nat → Int32) × (Nat → Int32) × (Nat → Int32) × (Nat → Int32)} : ∀ (n : Nat) {c_aimed_askers : Int32} {c_aimed_places : Int32} {c_aimed_seatBits : Int32} {c_aimed_entries : Int32} {c_aimed_best : Nat → Int32} {c_aimed_clipAll : Nat → Int32} {c_aimed_clipToOne : Nat → Int32} {c_aimed_clipToTwo : Nat → Int32} {c_aimed_firstOf : Nat → Int32} {c_aimed_gains : Nat → Int32} {c_aimed_left : Nat → Int32} {c_aimed_next : Nat → Int32} {c_aimed_solvedGains : Nat → Int32} {c_aimed_ways : Nat → Int32} {c_all_slots : Nat → Int32} {v1 : Int32} {v2 : Int32} {v3 : Int32} {v4 : Int32}, f_X7_solveVotes_3 N c_board_askers c_board_places c_board_seats c_board_told c_board_wishes n c_aimed_askers c_aimed_places c_aimed_seatBits c_aimed_entries c_aimed_best c_aimed_clipAll c_aimed_clipToOne c_aimed_clipToTwo c_aimed_firstOf c_aimed_gains c_aimed_left c_aimed_next c_aimed_solvedGains c_aimed_ways c_all_slots v1 v2 v3 v4 = some res → GG mu_X7_solveVotes κ ω A (QR κ ω A ad (none) (w_X7_solveVotes res.1 res.2.1 res.2.2.1 res.2.2.2.1 c_board_askers c_board_places res.2.2.2.2.1 res.2.2.2.2.2.1 res.2.2.2.2.2.2.1 res.2.2.2.2.2.2.2.1 res.2.2.2.2.2.2.2.2.1 res.2.2.2.2.2.2.2.2.2.1 res.2.2.2.2.2.2.2.2.2.2.1 res.2.2.2.2.2.2.2.2.2.2.2.1 res.2.2.2.2.2.2.2.2.2.2.2.2.1 res.2.2.2.2.2.2.2.2.2.2.2.2.2.1 res.2.2.2.2.2.2.2.2.2.2.2.2.2.2 c_board_seats c_board_told c_board_wishes u_above u_below u_board_age)) ad 0 0 3 (w_X7_solveVotes c_aimed_askers c_aimed_places c_aimed_seatBits c_aimed_entries c_board_askers c_board_places c_aimed_best c_aimed_clipAll c_aimed_clipToOne c_aimed_clipToTwo c_aimed_firstOf c_aimed_gains c_aimed_left c_aimed_next c_aimed_solvedGains c_aimed_ways c_all_slots c_board_seats c_board_told c_board_wishes u_above u_below u_board_age) [some (.ref 0), some (.int v1), some (.int v2), some (.int v3), some (.int v4), none, none, none, none] [] := by
  intro n
  induction n with
  | zero => intro c_aimed_askers c_aimed_places c_aimed_seatBits c_aimed_entries c_aimed_best c_aimed_clipAll c_aimed_clipToOne c_aimed_clipToTwo c_aimed_firstOf c_aimed_gains c_aimed_left c_aimed_next c_aimed_solvedGains c_aimed_ways c_all_slots v1 v2 v3 v4 hf; exact ob_0 hf
  | succ n ih =>
    intro c_aimed_askers c_aimed_places c_aimed_seatBits c_aimed_entries c_aimed_best c_aimed_clipAll c_aimed_clipToOne c_aimed_clipToTwo c_aimed_firstOf c_aimed_gains c_aimed_left c_aimed_next c_aimed_solvedGains c_aimed_ways c_all_slots v1 v2 v3 v4 hf
    refine G_iload dX7_solveVotes_3 rfl ?_
    refine G_aload_n dX7_solveVotes_5 rfl rfl ?_
    refine G_get (v := .ref 2) F_X7_10 dX7_solveVotes_6 rfl rfl ?_
    refine G_get (v := .int c_board_askers) F_X7_79 dX7_solveVotes_9 rfl rfl ?_
    refine G_icmp_ge 124 dX7_solveVotes_12 (by decide) (fun h1 => ?_) (fun h1 => ?_)
    · replace hf := ob_t h1 hf
      refine G_aload_n dX7_solveVotes_124 rfl rfl ?_
      refine G_get (v := .ref 1) F_X7_28 dX7_solveVotes_125 rfl rfl ?_
      obtain ⟨⟨o2, o3, o4, o5, o6, o7, o8, o9, o10, o11, o12, o13, o14, o15⟩, hc16, hf⟩ := ob hf
      refine G_callV (μ2 := mu_X4_solve) (As := []) (w2 := (w_X7_solveVotes o2 o3 o4 o5 c_board_askers c_board_places o6 o7 o8 o9 o10 c_aimed_gains o11 o12 o14 o15 o13 c_board_seats c_board_told c_board_wishes u_above u_below u_board_age)) (wc := (w_X4_solve c_aimed_askers c_aimed_places c_aimed_seatBits c_aimed_entries c_aimed_best c_board_askers c_board_places c_aimed_clipAll c_aimed_clipToOne c_aimed_clipToTwo c_aimed_firstOf c_aimed_gains c_aimed_left c_aimed_next c_all_slots c_aimed_solvedGains c_aimed_ways c_board_seats u_board_age)) (wc2 := (w_X4_solve o2 o3 o4 o5 o6 c_board_askers c_board_places o7 o8 o9 o10 c_aimed_gains o11 o12 o13 o14 o15 c_board_seats u_board_age)) (rest := []) (rv := []) [1, 3, 2, 4, 5, 6, 7, 8, 9, 10, 13, 11, 12, 14] [16, 1008, 15] [0, 15, 16] [0, 3, 5, 4, 6, 7, 8, 9, 10, 11, 12, 14, 15, 13, 16, 1, 2] (c_X4_solve hc16) cw_X4_solve m_X7_201 dX7_solveVotes_128 rfl ⟨leb rfl, leb rfl⟩ ⟨rfl, rfl⟩ rfl ⟨_, rfl, rfl⟩ (Fit.mk rfl rfl rfl) rfl (leb rfl) (ROsub.nil rfl rfl) rfl ?_
      change GG _ _ _ _ _ _ _ _ _ (w_X7_solveVotes o2 o3 o4 o5 c_board_askers c_board_places o6 o7 o8 o9 o10 c_aimed_gains o11 o12 o14 o15 o13 c_board_seats c_board_told c_board_wishes u_above u_below u_board_age) [some (.ref 0), some (.int v1), some (.int v2), some (.int v3), some (.int v4), none, none, none, none] []
      obtain rfl := os hf
      exact G_return dX7_solveVotes_131 rfl
    · replace hf := ob_f h1 hf
      refine G_aload_n dX7_solveVotes_15 rfl rfl ?_
      refine G_get (v := .ref 2) F_X7_10 dX7_solveVotes_16 rfl rfl ?_
      refine G_iload_n dX7_solveVotes_19 rfl rfl ?_
      refine G_iload dX7_solveVotes_20 rfl ?_
      obtain ⟨r17, hc18, hf⟩ := ob hf
      refine G_callV (μ2 := mu_X0_toldWorth) (As := [.int v1, .int v4]) (w2 := (w_X7_solveVotes c_aimed_askers c_aimed_places c_aimed_seatBits c_aimed_entries c_board_askers c_board_places c_aimed_best c_aimed_clipAll c_aimed_clipToOne c_aimed_clipToTwo c_aimed_firstOf c_aimed_gains c_aimed_left c_aimed_next c_aimed_solvedGains c_aimed_ways c_all_slots c_board_seats c_board_told c_board_wishes u_above u_below u_board_age)) (wc := (w_X0_toldWorth c_board_told c_board_wishes c_board_askers c_board_places u_board_age)) (wc2 := (w_X0_toldWorth c_board_told c_board_wishes c_board_askers c_board_places u_board_age)) (rest := []) (rv := [.int r17]) [2, 15, 16] [14, 1008] [0, 1, 3, 4, 5, 6, 7, 8, 9, 10, 11, 12, 13, 14] [0, 1, 14, 2, 3, 4, 5, 6, 7, 8, 9, 10, 11, 12, 13, 15, 16] (c_X0_toldWorth hc18) cw_X0_toldWorth m_X7_163 dX7_solveVotes_22 rfl ⟨leb rfl, leb rfl⟩ ⟨rfl, rfl⟩ rfl ⟨_, rfl, rfl⟩ (Fit.mk rfl rfl rfl) rfl (leb rfl) (ROsub.nil rfl rfl) rfl ?_
      change GG _ _ _ _ _ _ _ _ _ (w_X7_solveVotes c_aimed_askers c_aimed_places c_aimed_seatBits c_aimed_entries c_board_askers c_board_places c_aimed_best c_aimed_clipAll c_aimed_clipToOne c_aimed_clipToTwo c_aimed_firstOf c_aimed_gains c_aimed_left c_aimed_next c_aimed_solvedGains c_aimed_ways c_all_slots c_board_seats c_board_told c_board_wishes u_above u_below u_board_age) [some (.ref 0), some (.int v1), some (.int v2), some (.int v3), some (.int v4), none, none, none, none] [.int r17]
      refine G_istore dX7_solveVotes_25 (ltb rfl) ?_
      change GG _ _ _ _ _ _ _ _ _ _ [some (.ref 0), some (.int v1), some (.int v2), some (.int v3), some (.int v4), some (.int r17), none, none, none] _
      refine G_iconst (-1 : Int32) dX7_solveVotes_27 (by decide) ?_
      refine G_istore dX7_solveVotes_28 (ltb rfl) ?_
      change GG _ _ _ _ _ _ _ _ _ _ [some (.ref 0), some (.int v1), some (.int v2), some (.int v3), some (.int v4), some (.int r17), some (.int (-1 : Int32)), none, none] _
      exact g_X7_solveVotes_30 ih N hf
def f_X7_solveVotes (N : Nat) (c_board_askers : Int32) (c_board_places : Int32) (c_board_seats : Nat → Int32) (c_board_told : Nat → Int32) (c_board_wishes : Nat → Int32) (c_aimed_askers : Int32) (c_aimed_places : Int32) (c_aimed_seatBits : Int32) (c_aimed_entries : Int32) (c_aimed_best : Nat → Int32) (c_aimed_clipAll : Nat → Int32) (c_aimed_clipToOne : Nat → Int32) (c_aimed_clipToTwo : Nat → Int32) (c_aimed_firstOf : Nat → Int32) (c_aimed_gains : Nat → Int32) (c_aimed_left : Nat → Int32) (c_aimed_next : Nat → Int32) (c_aimed_solvedGains : Nat → Int32) (c_aimed_ways : Nat → Int32) (c_all_slots : Nat → Int32) (a1 : Int32) (a2 : Int32) (a3 : Int32) : Option (Int32 × Int32 × Int32 × Int32 × (Nat → Int32) × (Nat → Int32) × (Nat → Int32) × (Nat → Int32) × (Nat → Int32) × (Nat → Int32) × (Nat → Int32) × (Nat → Int32) × (Nat → Int32) × (Nat → Int32) × (Nat → Int32)) :=
  f_X7_solveVotes_3 N c_board_askers c_board_places c_board_seats c_board_told c_board_wishes N c_aimed_askers c_aimed_places c_aimed_seatBits c_aimed_entries c_aimed_best c_aimed_clipAll c_aimed_clipToOne c_aimed_clipToTwo c_aimed_firstOf c_aimed_gains c_aimed_left c_aimed_next c_aimed_solvedGains c_aimed_ways c_all_slots a1 a2 a3 0
set_option maxHeartbeats 4000000 in
set_option maxRecDepth 100000 in
theorem c_X7_solveVotes {N : Nat} {c_board_askers : Int32} {c_board_places : Int32} {c_board_seats : Nat → Int32} {c_board_told : Nat → Int32} {c_board_wishes : Nat → Int32} {c_aimed_askers : Int32} {c_aimed_places : Int32} {c_aimed_seatBits : Int32} {c_aimed_entries : Int32} {c_aimed_best : Nat → Int32} {c_aimed_clipAll : Nat → Int32} {c_aimed_clipToOne : Nat → Int32} {c_aimed_clipToTwo : Nat → Int32} {c_aimed_firstOf : Nat → Int32} {c_aimed_gains : Nat → Int32} {c_aimed_left : Nat → Int32} {c_aimed_next : Nat → Int32} {c_aimed_solvedGains : Nat → Int32} {c_aimed_ways : Nat → Int32} {c_all_slots : Nat → Int32} {u_above : Int64} {u_below : Int64} {u_board_age : Int32} {a1 : Int32} {a2 : Int32} {a3 : Int32} {res : Int32 × Int32 × Int32 × Int32 × (Nat → Int32) × (Nat → Int32) × (Nat → Int32) × (Nat → Int32) × (Nat → Int32) × (Nat → Int32) × (Nat → Int32) × (Nat → Int32) × (Nat → Int32) × (Nat → Int32) × (Nat → Int32)} (hf : f_X7_solveVotes N c_board_askers c_board_places c_board_seats c_board_told c_board_wishes c_aimed_askers c_aimed_places c_aimed_seatBits c_aimed_entries c_aimed_best c_aimed_clipAll c_aimed_clipToOne c_aimed_clipToTwo c_aimed_firstOf c_aimed_gains c_aimed_left c_aimed_next c_aimed_solvedGains c_aimed_ways c_all_slots a1 a2 a3 = some res) : Con mu_X7_solveVotes [.ref 0, .int a1, .int a2, .int a3] (w_X7_solveVotes c_aimed_askers c_aimed_places c_aimed_seatBits c_aimed_entries c_board_askers c_board_places c_aimed_best c_aimed_clipAll c_aimed_clipToOne c_aimed_clipToTwo c_aimed_firstOf c_aimed_gains c_aimed_left c_aimed_next c_aimed_solvedGains c_aimed_ways c_all_slots c_board_seats c_board_told c_board_wishes u_above u_below u_board_age) (none) (w_X7_solveVotes res.1 res.2.1 res.2.2.1 res.2.2.2.1 c_board_askers c_board_places res.2.2.2.2.1 res.2.2.2.2.2.1 res.2.2.2.2.2.2.1 res.2.2.2.2.2.2.2.1 res.2.2.2.2.2.2.2.2.1 res.2.2.2.2.2.2.2.2.2.1 res.2.2.2.2.2.2.2.2.2.2.1 res.2.2.2.2.2.2.2.2.2.2.2.1 res.2.2.2.2.2.2.2.2.2.2.2.2.1 res.2.2.2.2.2.2.2.2.2.2.2.2.2.1 res.2.2.2.2.2.2.2.2.2.2.2.2.2.2 c_board_seats c_board_told c_board_wishes u_above u_below u_board_age) := by
  refine Con.mk (show plainName RX7 = true by decide +kernel) (leb rfl) (fun κ ω A ad => ?_)
  change GG mu_X7_solveVotes κ ω A (QR κ ω A ad (none) (w_X7_solveVotes res.1 res.2.1 res.2.2.1 res.2.2.2.1 c_board_askers c_board_places res.2.2.2.2.1 res.2.2.2.2.2.1 res.2.2.2.2.2.2.1 res.2.2.2.2.2.2.2.1 res.2.2.2.2.2.2.2.2.1 res.2.2.2.2.2.2.2.2.2.1 res.2.2.2.2.2.2.2.2.2.2.1 res.2.2.2.2.2.2.2.2.2.2.2.1 res.2.2.2.2.2.2.2.2.2.2.2.2.1 res.2.2.2.2.2.2.2.2.2.2.2.2.2.1 res.2.2.2.2.2.2.2.2.2.2.2.2.2.2 c_board_seats c_board_told c_board_wishes u_above u_below u_board_age)) ad 0 0 0 (w_X7_solveVotes c_aimed_askers c_aimed_places c_aimed_seatBits c_aimed_entries c_board_askers c_board_places c_aimed_best c_aimed_clipAll c_aimed_clipToOne c_aimed_clipToTwo c_aimed_firstOf c_aimed_gains c_aimed_left c_aimed_next c_aimed_solvedGains c_aimed_ways c_all_slots c_board_seats c_board_told c_board_wishes u_above u_below u_board_age) [some (.ref 0), some (.int a1), some (.int a2), some (.int a3), none, none, none, none, none] []
  refine G_iconst 0 dX7_solveVotes_0 (by decide) ?_
  refine G_istore dX7_solveVotes_1 (ltb rfl) ?_
  change GG _ _ _ _ _ _ _ _ _ _ [some (.ref 0), some (.int a1), some (.int a2), some (.int a3), some (.int 0), none, none, none, none] _
  exact g_X7_solveVotes_3 N hf
set_option maxRecDepth 20000 in
theorem dX7_copyTold_0 : decode cX7_copyTold 0 = .ok (.iconst 0, 1) := by decide +kernel
set_option maxRecDepth 20000 in
theorem dX7_copyTold_1 : decode cX7_copyTold 1 = .ok (.istore_n 2, 1) := by decide +kernel
set_option maxRecDepth 20000 in
theorem dX7_copyTold_2 : decode cX7_copyTold 2 = .ok (.iload_n 2, 1) := by decide +kernel
set_option maxRecDepth 20000 in
theorem dX7_copyTold_3 : decode cX7_copyTold 3 = .ok (.aload_n 0, 1) := by decide +kernel
set_option maxRecDepth 20000 in
theorem dX7_copyTold_4 : decode cX7_copyTold 4 = .ok (.getfield 10, 3) := by decide +kernel
set_option maxRecDepth 20000 in
theorem dX7_copyTold_7 : decode cX7_copyTold 7 = .ok (.getfield 79, 3) := by decide +kernel
set_option maxRecDepth 20000 in
theorem dX7_copyTold_10 : decode cX7_copyTold 10 = .ok (.if_icmp .ge 24, 3) := by decide +kernel
set_option maxRecDepth 20000 in
theorem dX7_copyTold_13 : decode cX7_copyTold 13 = .ok (.aload_n 0, 1) := by decide +kernel
set_option maxRecDepth 20000 in
theorem dX7_copyTold_14 : decode cX7_copyTold 14 = .ok (.getfield 68, 3) := by decide +kernel
set_option maxRecDepth 20000 in
theorem dX7_copyTold_17 : decode cX7_copyTold 17 = .ok (.iload_n 2, 1) := by decide +kernel
set_option maxRecDepth 20000 in
theorem dX7_copyTold_18 : decode cX7_copyTold 18 = .ok (.aload_n 0, 1) := by decide +kernel
set_option maxRecDepth 20000 in
theorem dX7_copyTold_19 : decode cX7_copyTold 19 = .ok (.getfield 10, 3) := by decide +kernel
set_option maxRecDepth 20000 in
theorem dX7_copyTold_22 : decode cX7_copyTold 22 = .ok (.iload_n 1, 1) := by decide +kernel
set_option maxRecDepth 20000 in
theorem dX7_copyTold_23 : decode cX7_copyTold 23 = .ok (.iload_n 2, 1) := by decide +kernel
set_option maxRecDepth 20000 in
theorem dX7_copyTold_24 : decode cX7_copyTold 24 = .ok (.invokevirtual 150, 3) := by decide +kernel
set_option maxRecDepth 20000 in
theorem dX7_copyTold_27 : decode cX7_copyTold 27 = .ok (.iastore, 1) := by decide +kernel
set_option maxRecDepth 20000 in
theorem dX7_copyTold_28 : decode cX7_copyTold 28 = .ok (.iinc 2 1, 3) := by decide +kernel
set_option maxRecDepth 20000 in
theorem dX7_copyTold_31 : decode cX7_copyTold 31 = .ok (.goto (-29), 3) := by decide +kernel
set_option maxRecDepth 20000 in
theorem dX7_copyTold_34 : decode cX7_copyTold 34 = .ok (.return_, 1) := by decide +kernel
def f_X7_copyTold_2 (N : Nat) (c_board_askers : Int32) (c_board_told : Nat → Int32) : Nat → (Nat → Int32) → Int32 → Int32 → Option ((Nat → Int32))
  | 0, _, _, _ => none
  | n + 1, c_row, v1, v2 =>
    (if c_board_askers ≤ v2 then
      some c_row
    else
      (f_X0_toldOf N c_board_told v1 v2).bind fun r2 =>
      (wrI 8 c_row v2 r2).bind fun t4 =>
      f_X7_copyTold_2 N c_board_askers c_board_told n t4 v1 (v2 + 1))
set_option maxHeartbeats 4000000 in
set_option maxRecDepth 100000 in
theorem g_X7_copyTold_2 {κ : KC} {ω : KW} {A : Nat → Prop} {ad : Nat → Nat} {u_above : Int64} {u_below : Int64} {u_board_places : Int32} {u_board_age : Int32} {N : Nat} {c_board_askers : Int32} {c_board_told : Nat → Int32}  {res : (Nat → Int32)} : ∀ (n : Nat) {c_row : Nat → Int32} {v1 : Int32} {v2 : Int32}, f_X7_copyTold_2 N c_board_askers c_board_told n c_row v1 v2 = some res → GG mu_X7_copyTold κ ω A (QR κ ω A ad (none) (w_X7_copyTold c_board_askers res c_board_told u_above u_below u_board_places u_board_age)) ad 0 0 2 (w_X7_copyTold c_board_askers c_row c_board_told u_above u_below u_board_places u_board_age) [some (.ref 0), some (.int v1), some (.int v2)] [] := by
  intro n
  induction n with
  | zero => intro c_row v1 v2 hf; exact ob_0 hf
  | succ n ih =>
    intro c_row v1 v2 hf
    refine G_iload_n dX7_copyTold_2 rfl rfl ?_
    refine G_aload_n dX7_copyTold_3 rfl rfl ?_
    refine G_get (v := .ref 1) F_X7_10 dX7_copyTold_4 rfl rfl ?_
    refine G_get (v := .int c_board_askers) F_X7_79 dX7_copyTold_7 rfl rfl ?_
    refine G_icmp_ge 34 dX7_copyTold_10 (by decide) (fun h1 => ?_) (fun h1 => ?_)
    · replace hf := ob_t h1 hf
      obtain rfl := os hf
      exact G_return dX7_copyTold_34 rfl
    · replace hf := ob_f h1 hf
      refine G_aload_n dX7_copyTold_13 rfl rfl ?_
      refine G_get (v := .ref 2) F_X7_68 dX7_copyTold_14 rfl rfl ?_
      refine G_iload_n dX7_copyTold_17 rfl rfl ?_
      refine G_aload_n dX7_copyTold_18 rfl rfl ?_
      refine G_get (v := .ref 1) F_X7_10 dX7_copyTold_19 rfl rfl ?_
      refine G_iload_n dX7_copyTold_22 rfl rfl ?_
      refine G_iload_n dX7_copyTold_23 rfl rfl ?_
      obtain ⟨r2, hc3, hf⟩ := ob hf
      refine G_callV (μ2 := mu_X0_toldOf) (As := [.int v1, .int v2]) (w2 := (w_X7_copyTold c_board_askers c_row c_board_told u_above u_below u_board_places u_board_age)) (wc := (w_X0_toldOf c_board_told c_board_askers u_board_places u_board_age)) (wc2 := (w_X0_toldOf c_board_told c_board_askers u_board_places u_board_age)) (rest := [.int v2, .ref 2]) (rv := [.int r2]) [1, 3] [1008, 1009, 1010] [0, 2] [0, 2, 1, 3] (c_X0_toldOf hc3) cw_X0_toldOf m_X7_150 dX7_copyTold_24 rfl ⟨leb rfl, leb rfl⟩ ⟨rfl, rfl⟩ rfl ⟨_, rfl, rfl⟩ (Fit.mk rfl rfl rfl) rfl (leb rfl) (ROsub.nil rfl rfl) rfl ?_
      change GG _ _ _ _ _ _ _ _ _ (w_X7_copyTold c_board_askers c_row c_board_told u_above u_below u_board_places u_board_age) [some (.ref 0), some (.int v1), some (.int v2)] [.int r2, .int v2, .ref 2]
      obtain ⟨t4, ht4, hf⟩ := ob hf
      refine G_iast (w2 := (w_X7_copyTold c_board_askers t4 c_board_told u_above u_below u_board_places u_board_age)) dX7_copyTold_27 rfl ht4 rfl ?_
      refine G_iinc 1 dX7_copyTold_28 (by decide) rfl (ltb rfl) ?_
      change GG _ _ _ _ _ _ _ _ _ _ [some (.ref 0), some (.int v1), some (.int (v2 + 1))] _
      refine G_goto 2 dX7_copyTold_31 (by decide) ?_
      exact ih hf
def f_X7_copyTold (N : Nat) (c_board_askers : Int32) (c_board_told : Nat → Int32) (c_row : Nat → Int32) (a1 : Int32) : Option ((Nat → Int32)) :=
  f_X7_copyTold_2 N c_board_askers c_board_told N c_row a1 0
set_option maxHeartbeats 4000000 in
set_option maxRecDepth 100000 in
theorem c_X7_copyTold {N : Nat} {c_board_askers : Int32} {c_board_told : Nat → Int32} {c_row : Nat → Int32} {u_above : Int64} {u_below : Int64} {u_board_places : Int32} {u_board_age : Int32} {a1 : Int32} {res : (Nat → Int32)} (hf : f_X7_copyTold N c_board_askers c_board_told c_row a1 = some res) : Con mu_X7_copyTold [.ref 0, .int a1] (w_X7_copyTold c_board_askers c_row c_board_told u_above u_below u_board_places u_board_age) (none) (w_X7_copyTold c_board_askers res c_board_told u_above u_below u_board_places u_board_age) := by
  refine Con.mk (show plainName RX7 = true by decide +kernel) (leb rfl) (fun κ ω A ad => ?_)
  change GG mu_X7_copyTold κ ω A (QR κ ω A ad (none) (w_X7_copyTold c_board_askers res c_board_told u_above u_below u_board_places u_board_age)) ad 0 0 0 (w_X7_copyTold c_board_askers c_row c_board_told u_above u_below u_board_places u_board_age) [some (.ref 0), some (.int a1), none] []
  refine G_iconst 0 dX7_copyTold_0 (by decide) ?_
  refine G_istore_n dX7_copyTold_1 rfl (ltb rfl) ?_
  change GG _ _ _ _ _ _ _ _ _ _ [some (.ref 0), some (.int a1), some (.int 0)] _
  exact g_X7_copyTold_2 N hf
set_option maxRecDepth 20000 in
theorem dX7_findRow_0 : decode cX7_findRow 0 = .ok (.iload_n 2, 1) := by decide +kernel
set_option maxRecDepth 20000 in
theorem dX7_findRow_1 : decode cX7_findRow 1 = .ok (.tableswitch 143 4 9 #[39, 49, 59, 69, 91, 114], 39) := by decide +kernel
set_option maxRecDepth 20000 in
theorem dX7_findRow_40 : decode cX7_findRow 40 = .ok (.aload_n 0, 1) := by decide +kernel
set_option maxRecDepth 20000 in
theorem dX7_findRow_41 : decode cX7_findRow 41 = .ok (.getstatic 270, 3) := by decide +kernel
set_option maxRecDepth 20000 in
theorem dX7_findRow_44 : decode cX7_findRow 44 = .ok (.invokevirtual 273, 3) := by decide +kernel
set_option maxRecDepth 20000 in
theorem dX7_findRow_47 : decode cX7_findRow 47 = .ok (.goto 102, 3) := by decide +kernel
set_option maxRecDepth 20000 in
theorem dX7_findRow_50 : decode cX7_findRow 50 = .ok (.aload_n 0, 1) := by decide +kernel
set_option maxRecDepth 20000 in
theorem dX7_findRow_51 : decode cX7_findRow 51 = .ok (.getstatic 277, 3) := by decide +kernel
set_option maxRecDepth 20000 in
theorem dX7_findRow_54 : decode cX7_findRow 54 = .ok (.invokevirtual 273, 3) := by decide +kernel
set_option maxRecDepth 20000 in
theorem dX7_findRow_57 : decode cX7_findRow 57 = .ok (.goto 92, 3) := by decide +kernel
set_option maxRecDepth 20000 in
theorem dX7_findRow_60 : decode cX7_findRow 60 = .ok (.aload_n 0, 1) := by decide +kernel
set_option maxRecDepth 20000 in
theorem dX7_findRow_61 : decode cX7_findRow 61 = .ok (.getstatic 280, 3) := by decide +kernel
set_option maxRecDepth 20000 in
theorem dX7_findRow_64 : decode cX7_findRow 64 = .ok (.invokevirtual 273, 3) := by decide +kernel
set_option maxRecDepth 20000 in
theorem dX7_findRow_67 : decode cX7_findRow 67 = .ok (.goto 82, 3) := by decide +kernel
set_option maxRecDepth 20000 in
theorem dX7_findRow_70 : decode cX7_findRow 70 = .ok (.aload_n 0, 1) := by decide +kernel
set_option maxRecDepth 20000 in
theorem dX7_findRow_71 : decode cX7_findRow 71 = .ok (.iload_n 1, 1) := by decide +kernel
set_option maxRecDepth 20000 in
theorem dX7_findRow_72 : decode cX7_findRow 72 = .ok (.iconst 1, 1) := by decide +kernel
set_option maxRecDepth 20000 in
theorem dX7_findRow_73 : decode cX7_findRow 73 = .ok (.iconst (-1), 1) := by decide +kernel
set_option maxRecDepth 20000 in
theorem dX7_findRow_74 : decode cX7_findRow 74 = .ok (.invokevirtual 172, 3) := by decide +kernel
set_option maxRecDepth 20000 in
theorem dX7_findRow_77 : decode cX7_findRow 77 = .ok (.aload_n 0, 1) := by decide +kernel
set_option maxRecDepth 20000 in
theorem dX7_findRow_78 : decode cX7_findRow 78 = .ok (.getfield 28, 3) := by decide +kernel
set_option maxRecDepth 20000 in
theorem dX7_findRow_81 : decode cX7_findRow 81 = .ok (.iconst 0, 1) := by decide +kernel
set_option maxRecDepth 20000 in
theorem dX7_findRow_82 : decode cX7_findRow 82 = .ok (.aload_n 0, 1) := by decide +kernel
set_option maxRecDepth 20000 in
theorem dX7_findRow_83 : decode cX7_findRow 83 = .ok (.getfield 68, 3) := by decide +kernel
set_option maxRecDepth 20000 in
theorem dX7_findRow_86 : decode cX7_findRow 86 = .ok (.invokevirtual 131, 3) := by decide +kernel
set_option maxRecDepth 20000 in
theorem dX7_findRow_89 : decode cX7_findRow 89 = .ok (.goto 60, 3) := by decide +kernel
set_option maxRecDepth 20000 in
theorem dX7_findRow_92 : decode cX7_findRow 92 = .ok (.aload_n 0, 1) := by decide +kernel
set_option maxRecDepth 20000 in
theorem dX7_findRow_93 : decode cX7_findRow 93 = .ok (.iload_n 1, 1) := by decide +kernel
set_option maxRecDepth 20000 in
theorem dX7_findRow_94 : decode cX7_findRow 94 = .ok (.iconst 1, 1) := by decide +kernel
set_option maxRecDepth 20000 in
theorem dX7_findRow_95 : decode cX7_findRow 95 = .ok (.ldc 193, 2) := by decide +kernel
set_option maxRecDepth 20000 in
theorem dX7_findRow_97 : decode cX7_findRow 97 = .ok (.invokevirtual 172, 3) := by decide +kernel
set_option maxRecDepth 20000 in
theorem dX7_findRow_100 : decode cX7_findRow 100 = .ok (.aload_n 0, 1) := by decide +kernel
set_option maxRecDepth 20000 in
theorem dX7_findRow_101 : decode cX7_findRow 101 = .ok (.getfield 28, 3) := by decide +kernel
set_option maxRecDepth 20000 in
theorem dX7_findRow_104 : decode cX7_findRow 104 = .ok (.iconst 0, 1) := by decide +kernel
set_option maxRecDepth 20000 in
theorem dX7_findRow_105 : decode cX7_findRow 105 = .ok (.aload_n 0, 1) := by decide +kernel
set_option maxRecDepth 20000 in
theorem dX7_findRow_106 : decode cX7_findRow 106 = .ok (.getfield 68, 3) := by decide +kernel
set_option maxRecDepth 20000 in
theorem dX7_findRow_109 : decode cX7_findRow 109 = .ok (.invokevirtual 131, 3) := by decide +kernel
set_option maxRecDepth 20000 in
theorem dX7_findRow_112 : decode cX7_findRow 112 = .ok (.goto 37, 3) := by decide +kernel
set_option maxRecDepth 20000 in
theorem dX7_findRow_115 : decode cX7_findRow 115 = .ok (.aload_n 0, 1) := by decide +kernel
set_option maxRecDepth 20000 in
theorem dX7_findRow_116 : decode cX7_findRow 116 = .ok (.getfield 43, 3) := by decide +kernel
set_option maxRecDepth 20000 in
theorem dX7_findRow_119 : decode cX7_findRow 119 = .ok (.iload_n 1, 1) := by decide +kernel
set_option maxRecDepth 20000 in
theorem dX7_findRow_120 : decode cX7_findRow 120 = .ok (.invokevirtual 216, 3) := by decide +kernel
set_option maxRecDepth 20000 in
theorem dX7_findRow_123 : decode cX7_findRow 123 = .ok (.aload_n 0, 1) := by decide +kernel
set_option maxRecDepth 20000 in
theorem dX7_findRow_124 : decode cX7_findRow 124 = .ok (.getfield 43, 3) := by decide +kernel
set_option maxRecDepth 20000 in
theorem dX7_findRow_127 : decode cX7_findRow 127 = .ok (.getfield 283, 3) := by decide +kernel
set_option maxRecDepth 20000 in
theorem dX7_findRow_130 : decode cX7_findRow 130 = .ok (.iconst 0, 1) := by decide +kernel
set_option maxRecDepth 20000 in
theorem dX7_findRow_131 : decode cX7_findRow 131 = .ok (.aload_n 0, 1) := by decide +kernel
set_option maxRecDepth 20000 in
theorem dX7_findRow_132 : decode cX7_findRow 132 = .ok (.getfield 68, 3) := by decide +kernel
set_option maxRecDepth 20000 in
theorem dX7_findRow_135 : decode cX7_findRow 135 = .ok (.iconst 0, 1) := by decide +kernel
set_option maxRecDepth 20000 in
theorem dX7_findRow_136 : decode cX7_findRow 136 = .ok (.bipush 8, 2) := by decide +kernel
set_option maxRecDepth 20000 in
theorem dX7_findRow_138 : decode cX7_findRow 138 = .ok (.invokestatic 286, 3) := by decide +kernel
set_option maxRecDepth 20000 in
theorem dX7_findRow_141 : decode cX7_findRow 141 = .ok (.goto 8, 3) := by decide +kernel
set_option maxRecDepth 20000 in
theorem dX7_findRow_144 : decode cX7_findRow 144 = .ok (.aload_n 0, 1) := by decide +kernel
set_option maxRecDepth 20000 in
theorem dX7_findRow_145 : decode cX7_findRow 145 = .ok (.iload_n 2, 1) := by decide +kernel
set_option maxRecDepth 20000 in
theorem dX7_findRow_146 : decode cX7_findRow 146 = .ok (.invokevirtual 155, 3) := by decide +kernel
set_option maxRecDepth 20000 in
theorem dX7_findRow_149 : decode cX7_findRow 149 = .ok (.return_, 1) := by decide +kernel
def f_X7_findRow (N : Nat) (c_board_askers : Int32) (c_board_places : Int32) (c_board_seats : Nat → Int32) (c_board_told : Nat → Int32) (c_board_wishes : Nat → Int32) (c_aimed_askers : Int32) (c_aimed_places : Int32) (c_aimed_seatBits : Int32) (c_aimed_entries : Int32) (c_row : Nat → Int32) (c_aimed_best : Nat → Int32) (c_aimed_clipAll : Nat → Int32) (c_aimed_clipToOne : Nat → Int32) (c_aimed_clipToTwo : Nat → Int32) (c_aimed_firstOf : Nat → Int32) (c_aimed_gains : Nat → Int32) (c_aimed_left : Nat → Int32) (c_aimed_next : Nat → Int32) (c_aimed_solvedGains : Nat → Int32) (c_aimed_ways : Nat → Int32) (c_all_slots : Nat → Int32) (c_trade_gets : Nat → Int32) (c_trade_holderOf : Nat → Int32) (c_trade_holds : Nat → Int32) (c_trade_pointsAt : Nat → Int32) (c_trade_servedIn : Nat → Int32) (a1 : Int32) (a2 : Int32) : Option (Int32 × Int32 × Int32 × Int32 × (Nat → Int32) × (Nat → Int32) × (Nat → Int32) × (Nat → Int32) × (Nat → Int32) × (Nat → Int32) × (Nat → Int32) × (Nat → Int32) × (Nat → Int32) × (Nat → Int32) × (Nat → Int32) × (Nat → Int32) × (Nat → Int32) × (Nat → Int32) × (Nat → Int32) × (Nat → Int32) × (Nat → Int32)) :=
  if a2 = 4 then
    (f_X7_findByWorth N c_board_askers c_board_places c_board_seats c_board_wishes ro_FIRSTS_GAINS c_aimed_askers c_aimed_places c_aimed_seatBits c_aimed_entries c_row c_aimed_best c_aimed_clipAll c_aimed_clipToOne c_aimed_clipToTwo c_aimed_firstOf c_aimed_gains c_aimed_left c_aimed_next c_aimed_solvedGains c_aimed_ways c_all_slots).bind fun (o2, o3, o4, o5, o6, o7, o8, o9, o10, o11, o12, o13, o14, o15, o16, o17) =>
    some (o2, o3, o4, o5, o6, o7, o8, o9, o10, o11, o12, o13, o14, o15, o16, o17, c_trade_gets, c_trade_holderOf, c_trade_holds, c_trade_pointsAt, c_trade_servedIn)
  else if a2 = 5 then
    (f_X7_findByWorth N c_board_askers c_board_places c_board_seats c_board_wishes ro_FAIREST_GAINS c_aimed_askers c_aimed_places c_aimed_seatBits c_aimed_entries c_row c_aimed_best c_aimed_clipAll c_aimed_clipToOne c_aimed_clipToTwo c_aimed_firstOf c_aimed_gains c_aimed_left c_aimed_next c_aimed_solvedGains c_aimed_ways c_all_slots).bind fun (o20, o21, o22, o23, o24, o25, o26, o27, o28, o29, o30, o31, o32, o33, o34, o35) =>
    some (o20, o21, o22, o23, o24, o25, o26, o27, o28, o29, o30, o31, o32, o33, o34, o35, c_trade_gets, c_trade_holderOf, c_trade_holds, c_trade_pointsAt, c_trade_servedIn)
  else if a2 = 6 then
    (f_X7_findByWorth N c_board_askers c_board_places c_board_seats c_board_wishes ro_MOST_GAINS c_aimed_askers c_aimed_places c_aimed_seatBits c_aimed_entries c_row c_aimed_best c_aimed_clipAll c_aimed_clipToOne c_aimed_clipToTwo c_aimed_firstOf c_aimed_gains c_aimed_left c_aimed_next c_aimed_solvedGains c_aimed_ways c_all_slots).bind fun (o38, o39, o40, o41, o42, o43, o44, o45, o46, o47, o48, o49, o50, o51, o52, o53) =>
    some (o38, o39, o40, o41, o42, o43, o44, o45, o46, o47, o48, o49, o50, o51, o52, o53, c_trade_gets, c_trade_holderOf, c_trade_holds, c_trade_pointsAt, c_trade_servedIn)
  else if a2 = 7 then
    (f_X7_solveVotes N c_board_askers c_board_places c_board_seats c_board_told c_board_wishes c_aimed_askers c_aimed_places c_aimed_seatBits c_aimed_entries c_aimed_best c_aimed_clipAll c_aimed_clipToOne c_aimed_clipToTwo c_aimed_firstOf c_aimed_gains c_aimed_left c_aimed_next c_aimed_solvedGains c_aimed_ways c_all_slots a1 1 (-1 : Int32)).bind fun (o56, o57, o58, o59, o60, o61, o62, o63, o64, o65, o66, o67, o68, o69, o70) =>
    (f_X4_pathTo N o56 o57 o60 o67 o68 o69 c_row 0).bind fun o72 =>
    some (o56, o57, o58, o59, o72, o60, o61, o62, o63, o64, o65, o66, o67, o68, o69, o70, c_trade_gets, c_trade_holderOf, c_trade_holds, c_trade_pointsAt, c_trade_servedIn)
  else if a2 = 8 then
    (f_X7_solveVotes N c_board_askers c_board_places c_board_seats c_board_told c_board_wishes c_aimed_askers c_aimed_places c_aimed_seatBits c_aimed_entries c_aimed_best c_aimed_clipAll c_aimed_clipToOne c_aimed_clipToTwo c_aimed_firstOf c_aimed_gains c_aimed_left c_aimed_next c_aimed_solvedGains c_aimed_ways c_all_slots a1 1 (-2000000000 : Int32)).bind fun (o75, o76, o77, o78, o79, o80, o81, o82, o83, o84, o85, o86, o87, o88, o89) =>
    (f_X4_pathTo N o75 o76 o79 o86 o87 o88 c_row 0).bind fun o91 =>
    some (o75, o76, o77, o78, o91, o79, o80, o81, o82, o83, o84, o85, o86, o87, o88, o89, c_trade_gets, c_trade_holderOf, c_trade_holds, c_trade_pointsAt, c_trade_servedIn)
  else if a2 = 9 then
    (f_X6_run N c_board_askers c_board_places c_board_told c_board_wishes c_trade_gets c_trade_holderOf c_trade_holds c_trade_pointsAt c_trade_servedIn a1).bind fun (o94, o95, o96, o97, o98) =>
    some (c_aimed_askers, c_aimed_places, c_aimed_seatBits, c_aimed_entries, va_cpy o94 c_row (0 : Int32).toNatClampNeg (0 : Int32).toNatClampNeg (8 : Int32).toNatClampNeg, c_aimed_best, c_aimed_clipAll, c_aimed_clipToOne, c_aimed_clipToTwo, c_aimed_firstOf, c_aimed_gains, c_aimed_left, c_aimed_next, c_aimed_solvedGains, c_aimed_ways, c_all_slots, o94, o95, o96, o97, o98)
  else 
    (f_X7_copyTold N c_board_askers c_board_told c_row a2).bind fun o100 =>
    some (c_aimed_askers, c_aimed_places, c_aimed_seatBits, c_aimed_entries, o100, c_aimed_best, c_aimed_clipAll, c_aimed_clipToOne, c_aimed_clipToTwo, c_aimed_firstOf, c_aimed_gains, c_aimed_left, c_aimed_next, c_aimed_solvedGains, c_aimed_ways, c_all_slots, c_trade_gets, c_trade_holderOf, c_trade_holds, c_trade_pointsAt, c_trade_servedIn)
set_option maxHeartbeats 4000000 in
set_option maxRecDepth 100000 in
theorem c_X7_findRow {N : Nat} {c_board_askers : Int32} {c_board_places : Int32} {c_board_seats : Nat → Int32} {c_board_told : Nat → Int32} {c_board_wishes : Nat → Int32} {c_aimed_askers : Int32} {c_aimed_places : Int32} {c_aimed_seatBits : Int32} {c_aimed_entries : Int32} {c_row : Nat → Int32} {c_aimed_best : Nat → Int32} {c_aimed_clipAll : Nat → Int32} {c_aimed_clipToOne : Nat → Int32} {c_aimed_clipToTwo : Nat → Int32} {c_aimed_firstOf : Nat → Int32} {c_aimed_gains : Nat → Int32} {c_aimed_left : Nat → Int32} {c_aimed_next : Nat → Int32} {c_aimed_solvedGains : Nat → Int32} {c_aimed_ways : Nat → Int32} {c_all_slots : Nat → Int32} {c_trade_gets : Nat → Int32} {c_trade_holderOf : Nat → Int32} {c_trade_holds : Nat → Int32} {c_trade_pointsAt : Nat → Int32} {c_trade_servedIn : Nat → Int32} {u_above : Int64} {u_below : Int64} {u_board_age : Int32} {a1 : Int32} {a2 : Int32} {res : Int32 × Int32 × Int32 × Int32 × (Nat → Int32) × (Nat → Int32) × (Nat → Int32) × (Nat → Int32) × (Nat → Int32) × (Nat → Int32) × (Nat → Int32) × (Nat → Int32) × (Nat → Int32) × (Nat → Int32) × (Nat → Int32) × (Nat → Int32) × (Nat → Int32) × (Nat → Int32) × (Nat → Int32) × (Nat → Int32) × (Nat → Int32)} (hf : f_X7_findRow N c_board_askers c_board_places c_board_seats c_board_told c_board_wishes c_aimed_askers c_aimed_places c_aimed_seatBits c_aimed_entries c_row c_aimed_best c_aimed_clipAll c_aimed_clipToOne c_aimed_clipToTwo c_aimed_firstOf c_aimed_gains c_aimed_left c_aimed_next c_aimed_solvedGains c_aimed_ways c_all_slots c_trade_gets c_trade_holderOf c_trade_holds c_trade_pointsAt c_trade_servedIn a1 a2 = some res) : Con mu_X7_findRow [.ref 0, .int a1, .int a2] (w_X7_findRow c_aimed_askers c_aimed_places c_aimed_seatBits c_aimed_entries c_board_askers c_board_places c_row c_aimed_best c_aimed_clipAll c_aimed_clipToOne c_aimed_clipToTwo c_aimed_firstOf c_aimed_gains c_aimed_left c_aimed_next c_aimed_solvedGains c_aimed_ways c_all_slots c_board_seats c_board_told c_board_wishes c_trade_gets c_trade_holderOf c_trade_holds c_trade_pointsAt c_trade_servedIn u_above u_below u_board_age) (none) (w_X7_findRow res.1 res.2.1 res.2.2.1 res.2.2.2.1 c_board_askers c_board_places res.2.2.2.2.1 res.2.2.2.2.2.1 res.2.2.2.2.2.2.1 res.2.2.2.2.2.2.2.1 res.2.2.2.2.2.2.2.2.1 res.2.2.2.2.2.2.2.2.2.1 res.2.2.2.2.2.2.2.2.2.2.1 res.2.2.2.2.2.2.2.2.2.2.2.1 res.2.2.2.2.2.2.2.2.2.2.2.2.1 res.2.2.2.2.2.2.2.2.2.2.2.2.2.1 res.2.2.2.2.2.2.2.2.2.2.2.2.2.2.1 res.2.2.2.2.2.2.2.2.2.2.2.2.2.2.2.1 c_board_seats c_board_told c_board_wishes res.2.2.2.2.2.2.2.2.2.2.2.2.2.2.2.2.1 res.2.2.2.2.2.2.2.2.2.2.2.2.2.2.2.2.2.1 res.2.2.2.2.2.2.2.2.2.2.2.2.2.2.2.2.2.2.1 res.2.2.2.2.2.2.2.2.2.2.2.2.2.2.2.2.2.2.2.1 res.2.2.2.2.2.2.2.2.2.2.2.2.2.2.2.2.2.2.2.2 u_above u_below u_board_age) := by
  refine Con.mk (show plainName RX7 = true by decide +kernel) (leb rfl) (fun κ ω A ad => ?_)
  change GG mu_X7_findRow κ ω A (QR κ ω A ad (none) (w_X7_findRow res.1 res.2.1 res.2.2.1 res.2.2.2.1 c_board_askers c_board_places res.2.2.2.2.1 res.2.2.2.2.2.1 res.2.2.2.2.2.2.1 res.2.2.2.2.2.2.2.1 res.2.2.2.2.2.2.2.2.1 res.2.2.2.2.2.2.2.2.2.1 res.2.2.2.2.2.2.2.2.2.2.1 res.2.2.2.2.2.2.2.2.2.2.2.1 res.2.2.2.2.2.2.2.2.2.2.2.2.1 res.2.2.2.2.2.2.2.2.2.2.2.2.2.1 res.2.2.2.2.2.2.2.2.2.2.2.2.2.2.1 res.2.2.2.2.2.2.2.2.2.2.2.2.2.2.2.1 c_board_seats c_board_told c_board_wishes res.2.2.2.2.2.2.2.2.2.2.2.2.2.2.2.2.1 res.2.2.2.2.2.2.2.2.2.2.2.2.2.2.2.2.2.1 res.2.2.2.2.2.2.2.2.2.2.2.2.2.2.2.2.2.2.1 res.2.2.2.2.2.2.2.2.2.2.2.2.2.2.2.2.2.2.2.1 res.2.2.2.2.2.2.2.2.2.2.2.2.2.2.2.2.2.2.2.2 u_above u_below u_board_age)) ad 0 0 0 (w_X7_findRow c_aimed_askers c_aimed_places c_aimed_seatBits c_aimed_entries c_board_askers c_board_places c_row c_aimed_best c_aimed_clipAll c_aimed_clipToOne c_aimed_clipToTwo c_aimed_firstOf c_aimed_gains c_aimed_left c_aimed_next c_aimed_solvedGains c_aimed_ways c_all_slots c_board_seats c_board_told c_board_wishes c_trade_gets c_trade_holderOf c_trade_holds c_trade_pointsAt c_trade_servedIn u_above u_below u_board_age) [some (.ref 0), some (.int a1), some (.int a2)] []
  refine G_iload_n dX7_findRow_0 rfl rfl ?_
  by_cases h1 : a2 = 4
  · replace hf := ob_t h1 hf
    refine G_tswIn 4 40 h1 dX7_findRow_1 (by decide) (by decide) rfl (by decide) ?_
    refine G_aload_n dX7_findRow_40 rfl rfl ?_
    refine G_gets (C := "WishPlaces") (n := "FIRSTS_GAINS") (z := 1001) dX7_findRow_41 (List.mem_of_getElem? (i := 1) rfl) s_X7_270 ?_
    obtain ⟨⟨o2, o3, o4, o5, o6, o7, o8, o9, o10, o11, o12, o13, o14, o15, o16, o17⟩, hc18, hf⟩ := ob hf
    refine G_callV (μ2 := (mu_X7_findByWorth ro_FIRSTS_GAINS)) (As := [.ref 1000]) (w2 := (w_X7_findRow o2 o3 o4 o5 c_board_askers c_board_places o6 o7 o8 o9 o10 o11 o12 o13 o14 o15 o16 o17 c_board_seats c_board_told c_board_wishes c_trade_gets c_trade_holderOf c_trade_holds c_trade_pointsAt c_trade_servedIn u_above u_below u_board_age)) (wc := (w_X7_findByWorth c_aimed_askers c_aimed_places c_aimed_seatBits c_aimed_entries c_board_askers c_board_places c_row c_aimed_best c_aimed_clipAll c_aimed_clipToOne c_aimed_clipToTwo c_aimed_firstOf c_aimed_gains c_aimed_left c_aimed_next c_aimed_solvedGains c_aimed_ways c_all_slots c_board_seats c_board_wishes u_above u_below u_board_age)) (wc2 := (w_X7_findByWorth o2 o3 o4 o5 c_board_askers c_board_places o6 o7 o8 o9 o10 o11 o12 o13 o14 o15 o16 o17 c_board_seats c_board_wishes u_above u_below u_board_age)) (rest := []) (rv := []) [0, 1, 2, 3, 5, 6, 7, 8, 9, 10, 11, 12, 13, 14, 15, 16, 18] [1001, 1003, 1004, 1005, 4, 1006, 1007, 1008, 1009, 17] [4, 17, 19, 20, 21, 22, 23] [7, 8, 9, 10, 0, 11, 12, 13, 14, 15, 16, 17, 18, 19, 20, 21, 22, 1, 23, 2, 3, 4, 5, 6] (c_X7_findByWorth hc18) cw_X7_findByWorth m_X7_273 dX7_findRow_44 rfl ⟨leb rfl, leb rfl⟩ ⟨rfl, rfl⟩ rfl ⟨_, rfl, rfl⟩ (Fit.mk rfl rfl rfl) rfl (leb rfl) ⟨(List.forall_mem_cons.mpr ⟨⟨_, List.mem_of_getElem? (i := 1) rfl, rfl, rfl⟩, (fun _ h => absurd h List.not_mem_nil)⟩), (fun _ h => absurd h List.not_mem_nil)⟩ rfl ?_
    change GG _ _ _ _ _ _ _ _ _ (w_X7_findRow o2 o3 o4 o5 c_board_askers c_board_places o6 o7 o8 o9 o10 o11 o12 o13 o14 o15 o16 o17 c_board_seats c_board_told c_board_wishes c_trade_gets c_trade_holderOf c_trade_holds c_trade_pointsAt c_trade_servedIn u_above u_below u_board_age) [some (.ref 0), some (.int a1), some (.int a2)] []
    refine G_goto 149 dX7_findRow_47 (by decide) ?_
    obtain rfl := os hf
    exact G_return dX7_findRow_149 rfl
  replace hf := ob_f h1 hf
  by_cases h19 : a2 = 5
  · replace hf := ob_t h19 hf
    refine G_tswIn 5 50 h19 dX7_findRow_1 (by decide) (by decide) rfl (by decide) ?_
    refine G_aload_n dX7_findRow_50 rfl rfl ?_
    refine G_gets (C := "WishPlaces") (n := "FAIREST_GAINS") (z := 1000) dX7_findRow_51 (List.mem_of_getElem? (i := 0) rfl) s_X7_277 ?_
    obtain ⟨⟨o20, o21, o22, o23, o24, o25, o26, o27, o28, o29, o30, o31, o32, o33, o34, o35⟩, hc36, hf⟩ := ob hf
    refine G_callV (μ2 := (mu_X7_findByWorth ro_FAIREST_GAINS)) (As := [.ref 1000]) (w2 := (w_X7_findRow o20 o21 o22 o23 c_board_askers c_board_places o24 o25 o26 o27 o28 o29 o30 o31 o32 o33 o34 o35 c_board_seats c_board_told c_board_wishes c_trade_gets c_trade_holderOf c_trade_holds c_trade_pointsAt c_trade_servedIn u_above u_below u_board_age)) (wc := (w_X7_findByWorth c_aimed_askers c_aimed_places c_aimed_seatBits c_aimed_entries c_board_askers c_board_places c_row c_aimed_best c_aimed_clipAll c_aimed_clipToOne c_aimed_clipToTwo c_aimed_firstOf c_aimed_gains c_aimed_left c_aimed_next c_aimed_solvedGains c_aimed_ways c_all_slots c_board_seats c_board_wishes u_above u_below u_board_age)) (wc2 := (w_X7_findByWorth o20 o21 o22 o23 c_board_askers c_board_places o24 o25 o26 o27 o28 o29 o30 o31 o32 o33 o34 o35 c_board_seats c_board_wishes u_above u_below u_board_age)) (rest := []) (rv := []) [0, 1, 2, 3, 5, 6, 7, 8, 9, 10, 11, 12, 13, 14, 15, 16, 18] [1000, 1003, 1004, 1005, 4, 1006, 1007, 1008, 1009, 17] [4, 17, 19, 20, 21, 22, 23] [7, 8, 9, 10, 0, 11, 12, 13, 14, 15, 16, 17, 18, 19, 20, 21, 22, 1, 23, 2, 3, 4, 5, 6] (c_X7_findByWorth hc36) cw_X7_findByWorth m_X7_273 dX7_findRow_54 rfl ⟨leb rfl, leb rfl⟩ ⟨rfl, rfl⟩ rfl ⟨_, rfl, rfl⟩ (Fit.mk rfl rfl rfl) rfl (leb rfl) ⟨(List.forall_mem_cons.mpr ⟨⟨_, List.mem_of_getElem? (i := 0) rfl, rfl, rfl⟩, (fun _ h => absurd h List.not_mem_nil)⟩), (fun _ h => absurd h List.not_mem_nil)⟩ rfl ?_
    change GG _ _ _ _ _ _ _ _ _ (w_X7_findRow o20 o21 o22 o23 c_board_askers c_board_places o24 o25 o26 o27 o28 o29 o30 o31 o32 o33 o34 o35 c_board_seats c_board_told c_board_wishes c_trade_gets c_trade_holderOf c_trade_holds c_trade_pointsAt c_trade_servedIn u_above u_below u_board_age) [some (.ref 0), some (.int a1), some (.int a2)] []
    refine G_goto 149 dX7_findRow_57 (by decide) ?_
    obtain rfl := os hf
    exact G_return dX7_findRow_149 rfl
  replace hf := ob_f h19 hf
  by_cases h37 : a2 = 6
  · replace hf := ob_t h37 hf
    refine G_tswIn 6 60 h37 dX7_findRow_1 (by decide) (by decide) rfl (by decide) ?_
    refine G_aload_n dX7_findRow_60 rfl rfl ?_
    refine G_gets (C := "WishPlaces") (n := "MOST_GAINS") (z := 1002) dX7_findRow_61 (List.mem_of_getElem? (i := 2) rfl) s_X7_280 ?_
    obtain ⟨⟨o38, o39, o40, o41, o42, o43, o44, o45, o46, o47, o48, o49, o50, o51, o52, o53⟩, hc54, hf⟩ := ob hf
    refine G_callV (μ2 := (mu_X7_findByWorth ro_MOST_GAINS)) (As := [.ref 1000]) (w2 := (w_X7_findRow o38 o39 o40 o41 c_board_askers c_board_places o42 o43 o44 o45 o46 o47 o48 o49 o50 o51 o52 o53 c_board_seats c_board_told c_board_wishes c_trade_gets c_trade_holderOf c_trade_holds c_trade_pointsAt c_trade_servedIn u_above u_below u_board_age)) (wc := (w_X7_findByWorth c_aimed_askers c_aimed_places c_aimed_seatBits c_aimed_entries c_board_askers c_board_places c_row c_aimed_best c_aimed_clipAll c_aimed_clipToOne c_aimed_clipToTwo c_aimed_firstOf c_aimed_gains c_aimed_left c_aimed_next c_aimed_solvedGains c_aimed_ways c_all_slots c_board_seats c_board_wishes u_above u_below u_board_age)) (wc2 := (w_X7_findByWorth o38 o39 o40 o41 c_board_askers c_board_places o42 o43 o44 o45 o46 o47 o48 o49 o50 o51 o52 o53 c_board_seats c_board_wishes u_above u_below u_board_age)) (rest := []) (rv := []) [0, 1, 2, 3, 5, 6, 7, 8, 9, 10, 11, 12, 13, 14, 15, 16, 18] [1002, 1003, 1004, 1005, 4, 1006, 1007, 1008, 1009, 17] [4, 17, 19, 20, 21, 22, 23] [7, 8, 9, 10, 0, 11, 12, 13, 14, 15, 16, 17, 18, 19, 20, 21, 22, 1, 23, 2, 3, 4, 5, 6] (c_X7_findByWorth hc54) cw_X7_findByWorth m_X7_273 dX7_findRow_64 rfl ⟨leb rfl, leb rfl⟩ ⟨rfl, rfl⟩ rfl ⟨_, rfl, rfl⟩ (Fit.mk rfl rfl rfl) rfl (leb rfl) ⟨(List.forall_mem_cons.mpr ⟨⟨_, List.mem_of_getElem? (i := 2) rfl, rfl, rfl⟩, (fun _ h => absurd h List.not_mem_nil)⟩), (fun _ h => absurd h List.not_mem_nil)⟩ rfl ?_
    change GG _ _ _ _ _ _ _ _ _ (w_X7_findRow o38 o39 o40 o41 c_board_askers c_board_places o42 o43 o44 o45 o46 o47 o48 o49 o50 o51 o52 o53 c_board_seats c_board_told c_board_wishes c_trade_gets c_trade_holderOf c_trade_holds c_trade_pointsAt c_trade_servedIn u_above u_below u_board_age) [some (.ref 0), some (.int a1), some (.int a2)] []
    refine G_goto 149 dX7_findRow_67 (by decide) ?_
    obtain rfl := os hf
    exact G_return dX7_findRow_149 rfl
  replace hf := ob_f h37 hf
  by_cases h55 : a2 = 7
  · replace hf := ob_t h55 hf
    refine G_tswIn 7 70 h55 dX7_findRow_1 (by decide) (by decide) rfl (by decide) ?_
    refine G_aload_n dX7_findRow_70 rfl rfl ?_
    refine G_iload_n dX7_findRow_71 rfl rfl ?_
    refine G_iconst 1 dX7_findRow_72 (by decide) ?_
    refine G_iconst (-1 : Int32) dX7_findRow_73 (by decide) ?_
    obtain ⟨⟨o56, o57, o58, o59, o60, o61, o62, o63, o64, o65, o66, o67, o68, o69, o70⟩, hc71, hf⟩ := ob hf
    refine G_callV (μ2 := mu_X7_solveVotes) (As := [.int a1, .int 1, .int (-1 : Int32)]) (w2 := (w_X7_findRow o56 o57 o58 o59 c_board_askers c_board_places c_row o60 o61 o62 o63 o64 o65 o66 o67 o68 o69 o70 c_board_seats c_board_told c_board_wishes c_trade_gets c_trade_holderOf c_trade_holds c_trade_pointsAt c_trade_servedIn u_above u_below u_board_age)) (wc := (w_X7_solveVotes c_aimed_askers c_aimed_places c_aimed_seatBits c_aimed_entries c_board_askers c_board_places c_aimed_best c_aimed_clipAll c_aimed_clipToOne c_aimed_clipToTwo c_aimed_firstOf c_aimed_gains c_aimed_left c_aimed_next c_aimed_solvedGains c_aimed_ways c_all_slots c_board_seats c_board_told c_board_wishes u_above u_below u_board_age)) (wc2 := (w_X7_solveVotes o56 o57 o58 o59 c_board_askers c_board_places o60 o61 o62 o63 o64 o65 o66 o67 o68 o69 o70 c_board_seats c_board_told c_board_wishes u_above u_below u_board_age)) (rest := []) (rv := []) [0, 1, 2, 5, 6, 7, 8, 9, 10, 11, 12, 13, 14, 15, 16, 17, 18] [1003, 1004, 1005, 4, 1006, 1007, 1008, 3, 1009] [3, 4, 19, 20, 21, 22, 23] [7, 8, 9, 0, 1, 10, 11, 12, 13, 14, 15, 16, 17, 18, 19, 20, 21, 22, 23, 2, 3, 4, 5, 6] (c_X7_solveVotes hc71) cw_X7_solveVotes m_X7_172 dX7_findRow_74 rfl ⟨leb rfl, leb rfl⟩ ⟨rfl, rfl⟩ rfl ⟨_, rfl, rfl⟩ (Fit.mk rfl rfl rfl) rfl (leb rfl) (ROsub.nil rfl rfl) rfl ?_
    change GG _ _ _ _ _ _ _ _ _ (w_X7_findRow o56 o57 o58 o59 c_board_askers c_board_places c_row o60 o61 o62 o63 o64 o65 o66 o67 o68 o69 o70 c_board_seats c_board_told c_board_wishes c_trade_gets c_trade_holderOf c_trade_holds c_trade_pointsAt c_trade_servedIn u_above u_below u_board_age) [some (.ref 0), some (.int a1), some (.int a2)] []
    refine G_aload_n dX7_findRow_77 rfl rfl ?_
    refine G_get (v := .ref 1) F_X7_28 dX7_findRow_78 rfl rfl ?_
    refine G_iconst 0 dX7_findRow_81 (by decide) ?_
    refine G_aload_n dX7_findRow_82 rfl rfl ?_
    refine G_get (v := .ref 3) F_X7_68 dX7_findRow_83 rfl rfl ?_
    obtain ⟨o72, hc73, hf⟩ := ob hf
    refine G_callV (μ2 := mu_X4_pathTo) (As := [.int 0, .ref 1]) (w2 := (w_X7_findRow o56 o57 o58 o59 c_board_askers c_board_places o72 o60 o61 o62 o63 o64 o65 o66 o67 o68 o69 o70 c_board_seats c_board_told c_board_wishes c_trade_gets c_trade_holderOf c_trade_holds c_trade_pointsAt c_trade_servedIn u_above u_below u_board_age)) (wc := (w_X4_pathTo o56 o57 c_row o60 o67 o68 o69 o58 o59)) (wc2 := (w_X4_pathTo o56 o57 o72 o60 o67 o68 o69 o58 o59)) (rest := []) (rv := []) [1, 3, 5, 12, 13, 14] [2, 10, 11, 9, 15, 6, 7, 8] [0, 2, 4, 6, 7, 8, 9, 10, 11, 15, 16, 17, 18, 19, 20, 21, 22, 23] [0, 18, 1, 19, 2, 20, 3, 4, 5, 6, 7, 8, 21, 22, 23, 9, 10, 11, 12, 13, 14, 15, 16, 17] (c_X4_pathTo hc73) cw_X4_pathTo m_X7_131 dX7_findRow_86 rfl ⟨leb rfl, leb rfl⟩ ⟨rfl, rfl⟩ rfl ⟨_, rfl, rfl⟩ (Fit.mk rfl rfl rfl) rfl (leb rfl) (ROsub.nil rfl rfl) rfl ?_
    change GG _ _ _ _ _ _ _ _ _ (w_X7_findRow o56 o57 o58 o59 c_board_askers c_board_places o72 o60 o61 o62 o63 o64 o65 o66 o67 o68 o69 o70 c_board_seats c_board_told c_board_wishes c_trade_gets c_trade_holderOf c_trade_holds c_trade_pointsAt c_trade_servedIn u_above u_below u_board_age) [some (.ref 0), some (.int a1), some (.int a2)] []
    refine G_goto 149 dX7_findRow_89 (by decide) ?_
    obtain rfl := os hf
    exact G_return dX7_findRow_149 rfl
  replace hf := ob_f h55 hf
  by_cases h74 : a2 = 8
  · replace hf := ob_t h74 hf
    refine G_tswIn 8 92 h74 dX7_findRow_1 (by decide) (by decide) rfl (by decide) ?_
    refine G_aload_n dX7_findRow_92 rfl rfl ?_
    refine G_iload_n dX7_findRow_93 rfl rfl ?_
    refine G_iconst 1 dX7_findRow_94 (by decide) ?_
    refine G_ldc (v := (-2000000000 : Int32)) dX7_findRow_95 k_X7_193 ?_
    obtain ⟨⟨o75, o76, o77, o78, o79, o80, o81, o82, o83, o84, o85, o86, o87, o88, o89⟩, hc90, hf⟩ := ob hf
    refine G_callV (μ2 := mu_X7_solveVotes) (As := [.int a1, .int 1, .int (-2000000000 : Int32)]) (w2 := (w_X7_findRow o75 o76 o77 o78 c_board_askers c_board_places c_row o79 o80 o81 o82 o83 o84 o85 o86 o87 o88 o89 c_board_seats c_board_told c_board_wishes c_trade_gets c_trade_holderOf c_trade_holds c_trade_pointsAt c_trade_servedIn u_above u_below u_board_age)) (wc := (w_X7_solveVotes c_aimed_askers c_aimed_places c_aimed_seatBits c_aimed_entries c_board_askers c_board_places c_aimed_best c_aimed_clipAll c_aimed_clipToOne c_aimed_clipToTwo c_aimed_firstOf c_aimed_gains c_aimed_left c_aimed_next c_aimed_solvedGains c_aimed_ways c_all_slots c_board_seats c_board_told c_board_wishes u_above u_below u_board_age)) (wc2 := (w_X7_solveVotes o75 o76 o77 o78 c_board_askers c_board_places o79 o80 o81 o82 o83 o84 o85 o86 o87 o88 o89 c_board_seats c_board_told c_board_wishes u_above u_below u_board_age)) (rest := []) (rv := []) [0, 1, 2, 5, 6, 7, 8, 9, 10, 11, 12, 13, 14, 15, 16, 17, 18] [1003, 1004, 1005, 4, 1006, 1007, 1008, 3, 1009] [3, 4, 19, 20, 21, 22, 23] [7, 8, 9, 0, 1, 10, 11, 12, 13, 14, 15, 16, 17, 18, 19, 20, 21, 22, 23, 2, 3, 4, 5, 6] (c_X7_solveVotes hc90) cw_X7_solveVotes m_X7_172 dX7_findRow_97 rfl ⟨leb rfl, leb rfl⟩ ⟨rfl, rfl⟩ rfl ⟨_, rfl, rfl⟩ (Fit.mk rfl rfl rfl) rfl (leb rfl) (ROsub.nil rfl rfl) rfl ?_
    change GG _ _ _ _ _ _ _ _ _ (w_X7_findRow o75 o76 o77 o78 c_board_askers c_board_places c_row o79 o80 o81 o82 o83 o84 o85 o86 o87 o88 o89 c_board_seats c_board_told c_board_wishes c_trade_gets c_trade_holderOf c_trade_holds c_trade_pointsAt c_trade_servedIn u_above u_below u_board_age) [some (.ref 0), some (.int a1), some (.int a2)] []
    refine G_aload_n dX7_findRow_100 rfl rfl ?_
    refine G_get (v := .ref 1) F_X7_28 dX7_findRow_101 rfl rfl ?_
    refine G_iconst 0 dX7_findRow_104 (by decide) ?_
    refine G_aload_n dX7_findRow_105 rfl rfl ?_
    refine G_get (v := .ref 3) F_X7_68 dX7_findRow_106 rfl rfl ?_
    obtain ⟨o91, hc92, hf⟩ := ob hf
    refine G_callV (μ2 := mu_X4_pathTo) (As := [.int 0, .ref 1]) (w2 := (w_X7_findRow o75 o76 o77 o78 c_board_askers c_board_places o91 o79 o80 o81 o82 o83 o84 o85 o86 o87 o88 o89 c_board_seats c_board_told c_board_wishes c_trade_gets c_trade_holderOf c_trade_holds c_trade_pointsAt c_trade_servedIn u_above u_below u_board_age)) (wc := (w_X4_pathTo o75 o76 c_row o79 o86 o87 o88 o77 o78)) (wc2 := (w_X4_pathTo o75 o76 o91 o79 o86 o87 o88 o77 o78)) (rest := []) (rv := []) [1, 3, 5, 12, 13, 14] [2, 10, 11, 9, 15, 6, 7, 8] [0, 2, 4, 6, 7, 8, 9, 10, 11, 15, 16, 17, 18, 19, 20, 21, 22, 23] [0, 18, 1, 19, 2, 20, 3, 4, 5, 6, 7, 8, 21, 22, 23, 9, 10, 11, 12, 13, 14, 15, 16, 17] (c_X4_pathTo hc92) cw_X4_pathTo m_X7_131 dX7_findRow_109 rfl ⟨leb rfl, leb rfl⟩ ⟨rfl, rfl⟩ rfl ⟨_, rfl, rfl⟩ (Fit.mk rfl rfl rfl) rfl (leb rfl) (ROsub.nil rfl rfl) rfl ?_
    change GG _ _ _ _ _ _ _ _ _ (w_X7_findRow o75 o76 o77 o78 c_board_askers c_board_places o91 o79 o80 o81 o82 o83 o84 o85 o86 o87 o88 o89 c_board_seats c_board_told c_board_wishes c_trade_gets c_trade_holderOf c_trade_holds c_trade_pointsAt c_trade_servedIn u_above u_below u_board_age) [some (.ref 0), some (.int a1), some (.int a2)] []
    refine G_goto 149 dX7_findRow_112 (by decide) ?_
    obtain rfl := os hf
    exact G_return dX7_findRow_149 rfl
  replace hf := ob_f h74 hf
  by_cases h93 : a2 = 9
  · replace hf := ob_t h93 hf
    refine G_tswIn 9 115 h93 dX7_findRow_1 (by decide) (by decide) rfl (by decide) ?_
    refine G_aload_n dX7_findRow_115 rfl rfl ?_
    refine G_get (v := .ref 4) F_X7_43 dX7_findRow_116 rfl rfl ?_
    refine G_iload_n dX7_findRow_119 rfl rfl ?_
    obtain ⟨⟨o94, o95, o96, o97, o98⟩, hc99, hf⟩ := ob hf
    refine G_callV (μ2 := mu_X6_run) (As := [.int a1]) (w2 := (w_X7_findRow c_aimed_askers c_aimed_places c_aimed_seatBits c_aimed_entries c_board_askers c_board_places c_row c_aimed_best c_aimed_clipAll c_aimed_clipToOne c_aimed_clipToTwo c_aimed_firstOf c_aimed_gains c_aimed_left c_aimed_next c_aimed_solvedGains c_aimed_ways c_all_slots c_board_seats c_board_told c_board_wishes o94 o95 o96 o97 o98 u_above u_below u_board_age)) (wc := (w_X6_run c_board_askers c_board_places c_trade_gets c_trade_holderOf c_trade_holds c_trade_pointsAt c_trade_servedIn c_board_told c_board_wishes u_board_age)) (wc2 := (w_X6_run c_board_askers c_board_places o94 o95 o96 o97 o98 c_board_told c_board_wishes u_board_age)) (rest := []) (rv := []) [4, 2, 19, 20, 21, 22, 23, 17, 18] [16, 1009] [0, 1, 3, 5, 6, 7, 8, 9, 10, 11, 12, 13, 14, 15, 16] [0, 1, 16, 2, 15, 3, 4, 5, 6, 7, 8, 9, 10, 11, 12, 13, 14, 22, 23, 17, 18, 19, 20, 21] (c_X6_run hc99) cw_X6_run m_X7_216 dX7_findRow_120 rfl ⟨leb rfl, leb rfl⟩ ⟨rfl, rfl⟩ rfl ⟨_, rfl, rfl⟩ (Fit.mk rfl rfl rfl) rfl (leb rfl) (ROsub.nil rfl rfl) rfl ?_
    change GG _ _ _ _ _ _ _ _ _ (w_X7_findRow c_aimed_askers c_aimed_places c_aimed_seatBits c_aimed_entries c_board_askers c_board_places c_row c_aimed_best c_aimed_clipAll c_aimed_clipToOne c_aimed_clipToTwo c_aimed_firstOf c_aimed_gains c_aimed_left c_aimed_next c_aimed_solvedGains c_aimed_ways c_all_slots c_board_seats c_board_told c_board_wishes o94 o95 o96 o97 o98 u_above u_below u_board_age) [some (.ref 0), some (.int a1), some (.int a2)] []
    refine G_aload_n dX7_findRow_123 rfl rfl ?_
    refine G_get (v := .ref 4) F_X7_43 dX7_findRow_124 rfl rfl ?_
    refine G_get (v := .ref 19) F_X7_283 dX7_findRow_127 rfl rfl ?_
    refine G_iconst 0 dX7_findRow_130 (by decide) ?_
    refine G_aload_n dX7_findRow_131 rfl rfl ?_
    refine G_get (v := .ref 3) F_X7_68 dX7_findRow_132 rfl rfl ?_
    refine G_iconst 0 dX7_findRow_135 (by decide) ?_
    refine G_bipush 8 dX7_findRow_136 (by decide) ?_
    refine G_copyI (w2 := (w_X7_findRow c_aimed_askers c_aimed_places c_aimed_seatBits c_aimed_entries c_board_askers c_board_places (va_cpy o94 c_row (0 : Int32).toNatClampNeg (0 : Int32).toNatClampNeg (8 : Int32).toNatClampNeg) c_aimed_best c_aimed_clipAll c_aimed_clipToOne c_aimed_clipToTwo c_aimed_firstOf c_aimed_gains c_aimed_left c_aimed_next c_aimed_solvedGains c_aimed_ways c_all_slots c_board_seats c_board_told c_board_wishes o94 o95 o96 o97 o98 u_above u_below u_board_age)) dX7_findRow_138 m_X7_286 kn_copy ks_copy ki_copy rfl rfl (by decide) (by decide) (by decide) (by decide) (by decide) (leb rfl) (leb rfl) rfl ?_
    refine G_goto 149 dX7_findRow_141 (by decide) ?_
    obtain rfl := os hf
    exact G_return dX7_findRow_149 rfl
  replace hf := ob_f h93 hf
  refine G_tswOut 144 [4, 5, 6, 7, 8, 9] (by decide) (List.forall_mem_cons.mpr ⟨h1, (List.forall_mem_cons.mpr ⟨h19, (List.forall_mem_cons.mpr ⟨h37, (List.forall_mem_cons.mpr ⟨h55, (List.forall_mem_cons.mpr ⟨h74, (List.forall_mem_cons.mpr ⟨h93, (fun _ h => absurd h List.not_mem_nil)⟩)⟩)⟩)⟩)⟩)⟩) dX7_findRow_1 (by decide) ?_
  refine G_aload_n dX7_findRow_144 rfl rfl ?_
  refine G_iload_n dX7_findRow_145 rfl rfl ?_
  obtain ⟨o100, hc101, hf⟩ := ob hf
  refine G_callV (μ2 := mu_X7_copyTold) (As := [.int a2]) (w2 := (w_X7_findRow c_aimed_askers c_aimed_places c_aimed_seatBits c_aimed_entries c_board_askers c_board_places o100 c_aimed_best c_aimed_clipAll c_aimed_clipToOne c_aimed_clipToTwo c_aimed_firstOf c_aimed_gains c_aimed_left c_aimed_next c_aimed_solvedGains c_aimed_ways c_all_slots c_board_seats c_board_told c_board_wishes c_trade_gets c_trade_holderOf c_trade_holds c_trade_pointsAt c_trade_servedIn u_above u_below u_board_age)) (wc := (w_X7_copyTold c_board_askers c_row c_board_told u_above u_below c_board_places u_board_age)) (wc2 := (w_X7_copyTold c_board_askers o100 c_board_told u_above u_below c_board_places u_board_age)) (rest := []) (rv := []) [0, 2, 3, 17] [1003, 1004, 1, 1005, 4, 1006, 1007, 1008, 16, 18, 1009] [1, 4, 5, 6, 7, 8, 9, 10, 11, 12, 13, 14, 15, 16, 18, 19, 20, 21, 22, 23] [20, 0, 21, 22, 1, 2, 3, 4, 5, 6, 7, 8, 9, 10, 11, 12, 13, 23, 14, 15, 16, 17, 18, 19] (c_X7_copyTold hc101) cw_X7_copyTold m_X7_155 dX7_findRow_146 rfl ⟨leb rfl, leb rfl⟩ ⟨rfl, rfl⟩ rfl ⟨_, rfl, rfl⟩ (Fit.mk rfl rfl rfl) rfl (leb rfl) (ROsub.nil rfl rfl) rfl ?_
  change GG _ _ _ _ _ _ _ _ _ (w_X7_findRow c_aimed_askers c_aimed_places c_aimed_seatBits c_aimed_entries c_board_askers c_board_places o100 c_aimed_best c_aimed_clipAll c_aimed_clipToOne c_aimed_clipToTwo c_aimed_firstOf c_aimed_gains c_aimed_left c_aimed_next c_aimed_solvedGains c_aimed_ways c_all_slots c_board_seats c_board_told c_board_wishes c_trade_gets c_trade_holderOf c_trade_holds c_trade_pointsAt c_trade_servedIn u_above u_below u_board_age) [some (.ref 0), some (.int a1), some (.int a2)] []
  obtain rfl := os hf
  exact G_return dX7_findRow_149 rfl
set_option maxRecDepth 20000 in
theorem dX7_become_0 : decode cX7_become 0 = .ok (.iload_n 1, 1) := by decide +kernel
set_option maxRecDepth 20000 in
theorem dX7_become_1 : decode cX7_become 1 = .ok (.invokestatic 135, 3) := by decide +kernel
set_option maxRecDepth 20000 in
theorem dX7_become_4 : decode cX7_become 4 = .ok (.ifCond .eq 13, 3) := by decide +kernel
set_option maxRecDepth 20000 in
theorem dX7_become_7 : decode cX7_become 7 = .ok (.iload_n 2, 1) := by decide +kernel
set_option maxRecDepth 20000 in
theorem dX7_become_8 : decode cX7_become 8 = .ok (.ifCond .lt 9, 3) := by decide +kernel
set_option maxRecDepth 20000 in
theorem dX7_become_11 : decode cX7_become 11 = .ok (.iload_n 2, 1) := by decide +kernel
set_option maxRecDepth 20000 in
theorem dX7_become_12 : decode cX7_become 12 = .ok (.bipush 9, 2) := by decide +kernel
set_option maxRecDepth 20000 in
theorem dX7_become_14 : decode cX7_become 14 = .ok (.if_icmp .le 6, 3) := by decide +kernel
set_option maxRecDepth 20000 in
theorem dX7_become_17 : decode cX7_become 17 = .ok (.bipush (-2), 2) := by decide +kernel
set_option maxRecDepth 20000 in
theorem dX7_become_19 : decode cX7_become 19 = .ok (.ireturn, 1) := by decide +kernel
set_option maxRecDepth 20000 in
theorem dX7_become_20 : decode cX7_become 20 = .ok (.aload_n 0, 1) := by decide +kernel
set_option maxRecDepth 20000 in
theorem dX7_become_21 : decode cX7_become 21 = .ok (.iload_n 1, 1) := by decide +kernel
set_option maxRecDepth 20000 in
theorem dX7_become_22 : decode cX7_become 22 = .ok (.iload_n 2, 1) := by decide +kernel
set_option maxRecDepth 20000 in
theorem dX7_become_23 : decode cX7_become 23 = .ok (.invokevirtual 146, 3) := by decide +kernel
set_option maxRecDepth 20000 in
theorem dX7_become_26 : decode cX7_become 26 = .ok (.iconst 0, 1) := by decide +kernel
set_option maxRecDepth 20000 in
theorem dX7_become_27 : decode cX7_become 27 = .ok (.istore_n 3, 1) := by decide +kernel
set_option maxRecDepth 20000 in
theorem dX7_become_28 : decode cX7_become 28 = .ok (.iload_n 3, 1) := by decide +kernel
set_option maxRecDepth 20000 in
theorem dX7_become_29 : decode cX7_become 29 = .ok (.aload_n 0, 1) := by decide +kernel
set_option maxRecDepth 20000 in
theorem dX7_become_30 : decode cX7_become 30 = .ok (.getfield 10, 3) := by decide +kernel
set_option maxRecDepth 20000 in
theorem dX7_become_33 : decode cX7_become 33 = .ok (.getfield 79, 3) := by decide +kernel
set_option maxRecDepth 20000 in
theorem dX7_become_36 : decode cX7_become 36 = .ok (.if_icmp .ge 24, 3) := by decide +kernel
set_option maxRecDepth 20000 in
theorem dX7_become_39 : decode cX7_become 39 = .ok (.aload_n 0, 1) := by decide +kernel
set_option maxRecDepth 20000 in
theorem dX7_become_40 : decode cX7_become 40 = .ok (.getfield 10, 3) := by decide +kernel
set_option maxRecDepth 20000 in
theorem dX7_become_43 : decode cX7_become 43 = .ok (.iload_n 1, 1) := by decide +kernel
set_option maxRecDepth 20000 in
theorem dX7_become_44 : decode cX7_become 44 = .ok (.iload_n 3, 1) := by decide +kernel
set_option maxRecDepth 20000 in
theorem dX7_become_45 : decode cX7_become 45 = .ok (.aload_n 0, 1) := by decide +kernel
set_option maxRecDepth 20000 in
theorem dX7_become_46 : decode cX7_become 46 = .ok (.getfield 68, 3) := by decide +kernel
set_option maxRecDepth 20000 in
theorem dX7_become_49 : decode cX7_become 49 = .ok (.iload_n 3, 1) := by decide +kernel
set_option maxRecDepth 20000 in
theorem dX7_become_50 : decode cX7_become 50 = .ok (.iaload, 1) := by decide +kernel
set_option maxRecDepth 20000 in
theorem dX7_become_51 : decode cX7_become 51 = .ok (.invokevirtual 142, 3) := by decide +kernel
set_option maxRecDepth 20000 in
theorem dX7_become_54 : decode cX7_become 54 = .ok (.iinc 3 1, 3) := by decide +kernel
set_option maxRecDepth 20000 in
theorem dX7_become_57 : decode cX7_become 57 = .ok (.goto (-29), 3) := by decide +kernel
set_option maxRecDepth 20000 in
theorem dX7_become_60 : decode cX7_become 60 = .ok (.iconst 1, 1) := by decide +kernel
set_option maxRecDepth 20000 in
theorem dX7_become_61 : decode cX7_become 61 = .ok (.ireturn, 1) := by decide +kernel
def f_X7_become_28 (N : Nat) (c_board_askers : Int32) (c_board_places : Int32) (c_board_seats : Nat → Int32) (c_board_wishes : Nat → Int32) : Nat → Int32 → Int32 → Int32 → Int32 → (Nat → Int32) → (Nat → Int32) → (Nat → Int32) → (Nat → Int32) → (Nat → Int32) → (Nat → Int32) → (Nat → Int32) → (Nat → Int32) → (Nat → Int32) → (Nat → Int32) → (Nat → Int32) → (Nat → Int32) → (Nat → Int32) → (Nat → Int32) → (Nat → Int32) → (Nat → Int32) → (Nat → Int32) → (Nat → Int32) → Int32 → Int32 → Option (Int32 × Int32 × Int32 × Int32 × Int32 × (Nat → Int32) × (Nat → Int32) × (Nat → Int32) × (Nat → Int32) × (Nat → Int32) × (Nat → Int32) × (Nat → Int32) × (Nat → Int32) × (Nat → Int32) × (Nat → Int32) × (Nat → Int32) × (Nat → Int32) × (Nat → Int32) × (Nat → Int32) × (Nat → Int32) × (Nat → Int32) × (Nat → Int32) × (Nat → Int32))
  | 0, _, _, _, _, _, _, _, _, _, _, _, _, _, _, _, _, _, _, _, _, _, _, _, _ => none
  | n + 1, c_aimed_askers, c_aimed_places, c_aimed_seatBits, c_aimed_entries, c_row, c_aimed_best, c_aimed_clipAll, c_aimed_clipToOne, c_aimed_clipToTwo, c_aimed_firstOf, c_aimed_gains, c_aimed_left, c_aimed_next, c_aimed_solvedGains, c_aimed_ways, c_all_slots, c_board_told, c_trade_gets, c_trade_holderOf, c_trade_holds, c_trade_pointsAt, c_trade_servedIn, v1, v3 =>
    (if c_board_askers ≤ v3 then
      some (1, c_aimed_askers, c_aimed_places, c_aimed_seatBits, c_aimed_entries, c_row, c_aimed_best, c_aimed_clipAll, c_aimed_clipToOne, c_aimed_clipToTwo, c_aimed_firstOf, c_aimed_gains, c_aimed_left, c_aimed_next, c_aimed_solvedGains, c_aimed_ways, c_all_slots, c_board_told, c_trade_gets, c_trade_holderOf, c_trade_holds, c_trade_pointsAt, c_trade_servedIn)
    else
      (rdI 8 c_row v3).bind fun t2 =>
      (f_X0_tell N c_board_told v1 v3 t2).bind fun o3 =>
      f_X7_become_28 N c_board_askers c_board_places c_board_seats c_board_wishes n c_aimed_askers c_aimed_places c_aimed_seatBits c_aimed_entries c_row c_aimed_best c_aimed_clipAll c_aimed_clipToOne c_aimed_clipToTwo c_aimed_firstOf c_aimed_gains c_aimed_left c_aimed_next c_aimed_solvedGains c_aimed_ways c_all_slots o3 c_trade_gets c_trade_holderOf c_trade_holds c_trade_pointsAt c_trade_servedIn v1 (v3 + 1))
set_option maxHeartbeats 4000000 in
set_option maxRecDepth 100000 in
theorem g_X7_become_28 {κ : KC} {ω : KW} {A : Nat → Prop} {ad : Nat → Nat} {u_above : Int64} {u_below : Int64} {u_board_age : Int32} {N : Nat} {c_board_askers : Int32} {c_board_places : Int32} {c_board_seats : Nat → Int32} {c_board_wishes : Nat → Int32}  {res : Int32 × Int32 × Int32 × Int32 × Int32 × (Nat → Int32) × (Nat → Int32) × (Nat → Int32) × (Nat → Int32) × (Nat → Int32) × (Nat → Int32) × (Nat → Int32) × (Nat → Int32) × (Nat → Int32) × (Nat → Int32) × (Nat → Int32) × (Nat → Int32) × (Nat → Int32) × (Nat → Int32) × (Nat → Int32) × (Nat → Int32) × (Nat → Int32) × (Nat → Int32)} : ∀ (n : Nat) {c_aimed_askers : Int32} {c_aimed_places : Int32} {c_aimed_seatBits : Int32} {c_aimed_entries : Int32} {c_row : Nat → Int32} {c_aimed_best : Nat → Int32} {c_aimed_clipAll : Nat → Int32} {c_aimed_clipToOne : Nat → Int32} {c_aimed_clipToTwo : Nat → Int32} {c_aimed_firstOf : Nat → Int32} {c_aimed_gains : Nat → Int32} {c_aimed_left : Nat → Int32} {c_aimed_next : Nat → Int32} {c_aimed_solvedGains : Nat → Int32} {c_aimed_ways : Nat → Int32} {c_all_slots : Nat → Int32} {c_board_told : Nat → Int32} {c_trade_gets : Nat → Int32} {c_trade_holderOf : Nat → Int32} {c_trade_holds : Nat → Int32} {c_trade_pointsAt : Nat → Int32} {c_trade_servedIn : Nat → Int32} {v1 : Int32} {v3 : Int32}, f_X7_become_28 N c_board_askers c_board_places c_board_seats c_board_wishes n c_aimed_askers c_aimed_places c_aimed_seatBits c_aimed_entries c_row c_aimed_best c_aimed_clipAll c_aimed_clipToOne c_aimed_clipToTwo c_aimed_firstOf c_aimed_gains c_aimed_left c_aimed_next c_aimed_solvedGains c_aimed_ways c_all_slots c_board_told c_trade_gets c_trade_holderOf c_trade_holds c_trade_pointsAt c_trade_servedIn v1 v3 = some res → GG mu_X7_become κ ω A (QR κ ω A ad (some (.int res.1)) (w_X7_become res.2.1 res.2.2.1 res.2.2.2.1 res.2.2.2.2.1 c_board_askers c_board_places res.2.2.2.2.2.1 res.2.2.2.2.2.2.1 res.2.2.2.2.2.2.2.1 res.2.2.2.2.2.2.2.2.1 res.2.2.2.2.2.2.2.2.2.1 res.2.2.2.2.2.2.2.2.2.2.1 res.2.2.2.2.2.2.2.2.2.2.2.1 res.2.2.2.2.2.2.2.2.2.2.2.2.1 res.2.2.2.2.2.2.2.2.2.2.2.2.2.1 res.2.2.2.2.2.2.2.2.2.2.2.2.2.2.1 res.2.2.2.2.2.2.2.2.2.2.2.2.2.2.2.1 res.2.2.2.2.2.2.2.2.2.2.2.2.2.2.2.2.1 c_board_seats res.2.2.2.2.2.2.2.2.2.2.2.2.2.2.2.2.2.1 c_board_wishes res.2.2.2.2.2.2.2.2.2.2.2.2.2.2.2.2.2.2.1 res.2.2.2.2.2.2.2.2.2.2.2.2.2.2.2.2.2.2.2.1 res.2.2.2.2.2.2.2.2.2.2.2.2.2.2.2.2.2.2.2.2.1 res.2.2.2.2.2.2.2.2.2.2.2.2.2.2.2.2.2.2.2.2.2.1 res.2.2.2.2.2.2.2.2.2.2.2.2.2.2.2.2.2.2.2.2.2.2 u_above u_below u_board_age)) ad 0 0 28 (w_X7_become c_aimed_askers c_aimed_places c_aimed_seatBits c_aimed_entries c_board_askers c_board_places c_row c_aimed_best c_aimed_clipAll c_aimed_clipToOne c_aimed_clipToTwo c_aimed_firstOf c_aimed_gains c_aimed_left c_aimed_next c_aimed_solvedGains c_aimed_ways c_all_slots c_board_seats c_board_told c_board_wishes c_trade_gets c_trade_holderOf c_trade_holds c_trade_pointsAt c_trade_servedIn u_above u_below u_board_age) [some (.ref 0), some (.int v1), none, some (.int v3)] [] := by
  intro n
  induction n with
  | zero => intro c_aimed_askers c_aimed_places c_aimed_seatBits c_aimed_entries c_row c_aimed_best c_aimed_clipAll c_aimed_clipToOne c_aimed_clipToTwo c_aimed_firstOf c_aimed_gains c_aimed_left c_aimed_next c_aimed_solvedGains c_aimed_ways c_all_slots c_board_told c_trade_gets c_trade_holderOf c_trade_holds c_trade_pointsAt c_trade_servedIn v1 v3 hf; exact ob_0 hf
  | succ n ih =>
    intro c_aimed_askers c_aimed_places c_aimed_seatBits c_aimed_entries c_row c_aimed_best c_aimed_clipAll c_aimed_clipToOne c_aimed_clipToTwo c_aimed_firstOf c_aimed_gains c_aimed_left c_aimed_next c_aimed_solvedGains c_aimed_ways c_all_slots c_board_told c_trade_gets c_trade_holderOf c_trade_holds c_trade_pointsAt c_trade_servedIn v1 v3 hf
    refine G_iload_n dX7_become_28 rfl rfl ?_
    refine G_aload_n dX7_become_29 rfl rfl ?_
    refine G_get (v := .ref 2) F_X7_10 dX7_become_30 rfl rfl ?_
    refine G_get (v := .int c_board_askers) F_X7_79 dX7_become_33 rfl rfl ?_
    refine G_icmp_ge 60 dX7_become_36 (by decide) (fun h1 => ?_) (fun h1 => ?_)
    · replace hf := ob_t h1 hf
      refine G_iconst 1 dX7_become_60 (by decide) ?_
      obtain rfl := os hf
      exact G_ireturn dX7_become_61 rfl
    · replace hf := ob_f h1 hf
      refine G_aload_n dX7_become_39 rfl rfl ?_
      refine G_get (v := .ref 2) F_X7_10 dX7_become_40 rfl rfl ?_
      refine G_iload_n dX7_become_43 rfl rfl ?_
      refine G_iload_n dX7_become_44 rfl rfl ?_
      refine G_aload_n dX7_become_45 rfl rfl ?_
      refine G_get (v := .ref 3) F_X7_68 dX7_become_46 rfl rfl ?_
      refine G_iload_n dX7_become_49 rfl rfl ?_
      obtain ⟨t2, ht2, hf⟩ := ob hf
      refine G_iald dX7_become_50 rfl ht2 ?_
      obtain ⟨o3, hc4, hf⟩ := ob hf
      refine G_callV (μ2 := mu_X0_tell) (As := [.int v1, .int v3, .int t2]) (w2 := (w_X7_become c_aimed_askers c_aimed_places c_aimed_seatBits c_aimed_entries c_board_askers c_board_places c_row c_aimed_best c_aimed_clipAll c_aimed_clipToOne c_aimed_clipToTwo c_aimed_firstOf c_aimed_gains c_aimed_left c_aimed_next c_aimed_solvedGains c_aimed_ways c_all_slots c_board_seats o3 c_board_wishes c_trade_gets c_trade_holderOf c_trade_holds c_trade_pointsAt c_trade_servedIn u_above u_below u_board_age)) (wc := (w_X0_tell c_board_told c_board_askers c_board_places u_board_age)) (wc2 := (w_X0_tell o3 c_board_askers c_board_places u_board_age)) (rest := []) (rv := []) [2, 17] [16, 18, 1009] [0, 1, 3, 4, 5, 6, 7, 8, 9, 10, 11, 12, 13, 14, 15, 16, 18, 19, 20, 21, 22, 23] [0, 1, 22, 2, 3, 4, 5, 6, 7, 8, 9, 10, 11, 12, 13, 14, 15, 23, 16, 17, 18, 19, 20, 21] (c_X0_tell hc4) cw_X0_tell m_X7_142 dX7_become_51 rfl ⟨leb rfl, leb rfl⟩ ⟨rfl, rfl⟩ rfl ⟨_, rfl, rfl⟩ (Fit.mk rfl rfl rfl) rfl (leb rfl) (ROsub.nil rfl rfl) rfl ?_
      change GG _ _ _ _ _ _ _ _ _ (w_X7_become c_aimed_askers c_aimed_places c_aimed_seatBits c_aimed_entries c_board_askers c_board_places c_row c_aimed_best c_aimed_clipAll c_aimed_clipToOne c_aimed_clipToTwo c_aimed_firstOf c_aimed_gains c_aimed_left c_aimed_next c_aimed_solvedGains c_aimed_ways c_all_slots c_board_seats o3 c_board_wishes c_trade_gets c_trade_holderOf c_trade_holds c_trade_pointsAt c_trade_servedIn u_above u_below u_board_age) [some (.ref 0), some (.int v1), none, some (.int v3)] []
      refine G_iinc 1 dX7_become_54 (by decide) rfl (ltb rfl) ?_
      change GG _ _ _ _ _ _ _ _ _ _ [some (.ref 0), some (.int v1), none, some (.int (v3 + 1))] _
      refine G_goto 28 dX7_become_57 (by decide) ?_
      exact ih hf
def f_X7_become (N : Nat) (c_board_askers : Int32) (c_board_places : Int32) (c_board_seats : Nat → Int32) (c_board_wishes : Nat → Int32) (c_aimed_askers : Int32) (c_aimed_places : Int32) (c_aimed_seatBits : Int32) (c_aimed_entries : Int32) (c_row : Nat → Int32) (c_aimed_best : Nat → Int32) (c_aimed_clipAll : Nat → Int32) (c_aimed_clipToOne : Nat → Int32) (c_aimed_clipToTwo : Nat → Int32) (c_aimed_firstOf : Nat → Int32) (c_aimed_gains : Nat → Int32) (c_aimed_left : Nat → Int32) (c_aimed_next : Nat → Int32) (c_aimed_solvedGains : Nat → Int32) (c_aimed_ways : Nat → Int32) (c_all_slots : Nat → Int32) (c_board_told : Nat → Int32) (c_trade_gets : Nat → Int32) (c_trade_holderOf : Nat → Int32) (c_trade_holds : Nat → Int32) (c_trade_pointsAt : Nat → Int32) (c_trade_servedIn : Nat → Int32) (a1 : Int32) (a2 : Int32) : Option (Int32 × Int32 × Int32 × Int32 × Int32 × (Nat → Int32) × (Nat → Int32) × (Nat → Int32) × (Nat → Int32) × (Nat → Int32) × (Nat → Int32) × (Nat → Int32) × (Nat → Int32) × (Nat → Int32) × (Nat → Int32) × (Nat → Int32) × (Nat → Int32) × (Nat → Int32) × (Nat → Int32) × (Nat → Int32) × (Nat → Int32) × (Nat → Int32) × (Nat → Int32)) :=
  (f_X7_isTold N a1).bind fun r1 =>
  (if r1 = 0 then
    some ((-2 : Int32), c_aimed_askers, c_aimed_places, c_aimed_seatBits, c_aimed_entries, c_row, c_aimed_best, c_aimed_clipAll, c_aimed_clipToOne, c_aimed_clipToTwo, c_aimed_firstOf, c_aimed_gains, c_aimed_left, c_aimed_next, c_aimed_solvedGains, c_aimed_ways, c_all_slots, c_board_told, c_trade_gets, c_trade_holderOf, c_trade_holds, c_trade_pointsAt, c_trade_servedIn)
  else
    (if a2 < 0 then
      some ((-2 : Int32), c_aimed_askers, c_aimed_places, c_aimed_seatBits, c_aimed_entries, c_row, c_aimed_best, c_aimed_clipAll, c_aimed_clipToOne, c_aimed_clipToTwo, c_aimed_firstOf, c_aimed_gains, c_aimed_left, c_aimed_next, c_aimed_solvedGains, c_aimed_ways, c_all_slots, c_board_told, c_trade_gets, c_trade_holderOf, c_trade_holds, c_trade_pointsAt, c_trade_servedIn)
    else
      (if a2 ≤ 9 then
        (f_X7_findRow N c_board_askers c_board_places c_board_seats c_board_told c_board_wishes c_aimed_askers c_aimed_places c_aimed_seatBits c_aimed_entries c_row c_aimed_best c_aimed_clipAll c_aimed_clipToOne c_aimed_clipToTwo c_aimed_firstOf c_aimed_gains c_aimed_left c_aimed_next c_aimed_solvedGains c_aimed_ways c_all_slots c_trade_gets c_trade_holderOf c_trade_holds c_trade_pointsAt c_trade_servedIn a1 a2).bind fun (o6, o7, o8, o9, o10, o11, o12, o13, o14, o15, o16, o17, o18, o19, o20, o21, o22, o23, o24, o25, o26) =>
        f_X7_become_28 N c_board_askers c_board_places c_board_seats c_board_wishes N o6 o7 o8 o9 o10 o11 o12 o13 o14 o15 o16 o17 o18 o19 o20 o21 c_board_told o22 o23 o24 o25 o26 a1 0
      else
        some ((-2 : Int32), c_aimed_askers, c_aimed_places, c_aimed_seatBits, c_aimed_entries, c_row, c_aimed_best, c_aimed_clipAll, c_aimed_clipToOne, c_aimed_clipToTwo, c_aimed_firstOf, c_aimed_gains, c_aimed_left, c_aimed_next, c_aimed_solvedGains, c_aimed_ways, c_all_slots, c_board_told, c_trade_gets, c_trade_holderOf, c_trade_holds, c_trade_pointsAt, c_trade_servedIn))))
set_option maxHeartbeats 4000000 in
set_option maxRecDepth 100000 in
theorem c_X7_become {N : Nat} {c_board_askers : Int32} {c_board_places : Int32} {c_board_seats : Nat → Int32} {c_board_wishes : Nat → Int32} {c_aimed_askers : Int32} {c_aimed_places : Int32} {c_aimed_seatBits : Int32} {c_aimed_entries : Int32} {c_row : Nat → Int32} {c_aimed_best : Nat → Int32} {c_aimed_clipAll : Nat → Int32} {c_aimed_clipToOne : Nat → Int32} {c_aimed_clipToTwo : Nat → Int32} {c_aimed_firstOf : Nat → Int32} {c_aimed_gains : Nat → Int32} {c_aimed_left : Nat → Int32} {c_aimed_next : Nat → Int32} {c_aimed_solvedGains : Nat → Int32} {c_aimed_ways : Nat → Int32} {c_all_slots : Nat → Int32} {c_board_told : Nat → Int32} {c_trade_gets : Nat → Int32} {c_trade_holderOf : Nat → Int32} {c_trade_holds : Nat → Int32} {c_trade_pointsAt : Nat → Int32} {c_trade_servedIn : Nat → Int32} {u_above : Int64} {u_below : Int64} {u_board_age : Int32} {a1 : Int32} {a2 : Int32} {res : Int32 × Int32 × Int32 × Int32 × Int32 × (Nat → Int32) × (Nat → Int32) × (Nat → Int32) × (Nat → Int32) × (Nat → Int32) × (Nat → Int32) × (Nat → Int32) × (Nat → Int32) × (Nat → Int32) × (Nat → Int32) × (Nat → Int32) × (Nat → Int32) × (Nat → Int32) × (Nat → Int32) × (Nat → Int32) × (Nat → Int32) × (Nat → Int32) × (Nat → Int32)} (hf : f_X7_become N c_board_askers c_board_places c_board_seats c_board_wishes c_aimed_askers c_aimed_places c_aimed_seatBits c_aimed_entries c_row c_aimed_best c_aimed_clipAll c_aimed_clipToOne c_aimed_clipToTwo c_aimed_firstOf c_aimed_gains c_aimed_left c_aimed_next c_aimed_solvedGains c_aimed_ways c_all_slots c_board_told c_trade_gets c_trade_holderOf c_trade_holds c_trade_pointsAt c_trade_servedIn a1 a2 = some res) : Con mu_X7_become [.ref 0, .int a1, .int a2] (w_X7_become c_aimed_askers c_aimed_places c_aimed_seatBits c_aimed_entries c_board_askers c_board_places c_row c_aimed_best c_aimed_clipAll c_aimed_clipToOne c_aimed_clipToTwo c_aimed_firstOf c_aimed_gains c_aimed_left c_aimed_next c_aimed_solvedGains c_aimed_ways c_all_slots c_board_seats c_board_told c_board_wishes c_trade_gets c_trade_holderOf c_trade_holds c_trade_pointsAt c_trade_servedIn u_above u_below u_board_age) (some (.int res.1)) (w_X7_become res.2.1 res.2.2.1 res.2.2.2.1 res.2.2.2.2.1 c_board_askers c_board_places res.2.2.2.2.2.1 res.2.2.2.2.2.2.1 res.2.2.2.2.2.2.2.1 res.2.2.2.2.2.2.2.2.1 res.2.2.2.2.2.2.2.2.2.1 res.2.2.2.2.2.2.2.2.2.2.1 res.2.2.2.2.2.2.2.2.2.2.2.1 res.2.2.2.2.2.2.2.2.2.2.2.2.1 res.2.2.2.2.2.2.2.2.2.2.2.2.2.1 res.2.2.2.2.2.2.2.2.2.2.2.2.2.2.1 res.2.2.2.2.2.2.2.2.2.2.2.2.2.2.2.1 res.2.2.2.2.2.2.2.2.2.2.2.2.2.2.2.2.1 c_board_seats res.2.2.2.2.2.2.2.2.2.2.2.2.2.2.2.2.2.1 c_board_wishes res.2.2.2.2.2.2.2.2.2.2.2.2.2.2.2.2.2.2.1 res.2.2.2.2.2.2.2.2.2.2.2.2.2.2.2.2.2.2.2.1 res.2.2.2.2.2.2.2.2.2.2.2.2.2.2.2.2.2.2.2.2.1 res.2.2.2.2.2.2.2.2.2.2.2.2.2.2.2.2.2.2.2.2.2.1 res.2.2.2.2.2.2.2.2.2.2.2.2.2.2.2.2.2.2.2.2.2.2 u_above u_below u_board_age) := by
  refine Con.mk (show plainName RX7 = true by decide +kernel) (leb rfl) (fun κ ω A ad => ?_)
  change GG mu_X7_become κ ω A (QR κ ω A ad (some (.int res.1)) (w_X7_become res.2.1 res.2.2.1 res.2.2.2.1 res.2.2.2.2.1 c_board_askers c_board_places res.2.2.2.2.2.1 res.2.2.2.2.2.2.1 res.2.2.2.2.2.2.2.1 res.2.2.2.2.2.2.2.2.1 res.2.2.2.2.2.2.2.2.2.1 res.2.2.2.2.2.2.2.2.2.2.1 res.2.2.2.2.2.2.2.2.2.2.2.1 res.2.2.2.2.2.2.2.2.2.2.2.2.1 res.2.2.2.2.2.2.2.2.2.2.2.2.2.1 res.2.2.2.2.2.2.2.2.2.2.2.2.2.2.1 res.2.2.2.2.2.2.2.2.2.2.2.2.2.2.2.1 res.2.2.2.2.2.2.2.2.2.2.2.2.2.2.2.2.1 c_board_seats res.2.2.2.2.2.2.2.2.2.2.2.2.2.2.2.2.2.1 c_board_wishes res.2.2.2.2.2.2.2.2.2.2.2.2.2.2.2.2.2.2.1 res.2.2.2.2.2.2.2.2.2.2.2.2.2.2.2.2.2.2.2.1 res.2.2.2.2.2.2.2.2.2.2.2.2.2.2.2.2.2.2.2.2.1 res.2.2.2.2.2.2.2.2.2.2.2.2.2.2.2.2.2.2.2.2.2.1 res.2.2.2.2.2.2.2.2.2.2.2.2.2.2.2.2.2.2.2.2.2.2 u_above u_below u_board_age)) ad 0 0 0 (w_X7_become c_aimed_askers c_aimed_places c_aimed_seatBits c_aimed_entries c_board_askers c_board_places c_row c_aimed_best c_aimed_clipAll c_aimed_clipToOne c_aimed_clipToTwo c_aimed_firstOf c_aimed_gains c_aimed_left c_aimed_next c_aimed_solvedGains c_aimed_ways c_all_slots c_board_seats c_board_told c_board_wishes c_trade_gets c_trade_holderOf c_trade_holds c_trade_pointsAt c_trade_servedIn u_above u_below u_board_age) [some (.ref 0), some (.int a1), some (.int a2), none] []
  refine G_iload_n dX7_become_0 rfl rfl ?_
  obtain ⟨r1, hc2, hf⟩ := ob hf
  refine G_callS (μ2 := mu_X7_isTold) (As := [.int a1]) (w2 := (w_X7_become c_aimed_askers c_aimed_places c_aimed_seatBits c_aimed_entries c_board_askers c_board_places c_row c_aimed_best c_aimed_clipAll c_aimed_clipToOne c_aimed_clipToTwo c_aimed_firstOf c_aimed_gains c_aimed_left c_aimed_next c_aimed_solvedGains c_aimed_ways c_all_slots c_board_seats c_board_told c_board_wishes c_trade_gets c_trade_holderOf c_trade_holds c_trade_pointsAt c_trade_servedIn u_above u_below u_board_age)) (wc := []) (wc2 := []) (rest := []) (rv := [.int r1]) [] [] [0, 1, 2, 3, 4, 5, 6, 7, 8, 9, 10, 11, 12, 13, 14, 15, 16, 17, 18, 19, 20, 21, 22, 23] [0, 1, 2, 3, 4, 5, 6, 7, 8, 9, 10, 11, 12, 13, 14, 15, 16, 17, 18, 19, 20, 21, 22, 23] (c_X7_isTold hc2) cw_X7_isTold m_X7_135 rfl dX7_become_1 rfl ⟨leb rfl, leb rfl⟩ ⟨rfl, rfl⟩ (Fit.mk rfl rfl rfl) rfl (leb rfl) (ROsub.nil rfl rfl) rfl ?_
  change GG _ _ _ _ _ _ _ _ _ (w_X7_become c_aimed_askers c_aimed_places c_aimed_seatBits c_aimed_entries c_board_askers c_board_places c_row c_aimed_best c_aimed_clipAll c_aimed_clipToOne c_aimed_clipToTwo c_aimed_firstOf c_aimed_gains c_aimed_left c_aimed_next c_aimed_solvedGains c_aimed_ways c_all_slots c_board_seats c_board_told c_board_wishes c_trade_gets c_trade_holderOf c_trade_holds c_trade_pointsAt c_trade_servedIn u_above u_below u_board_age) [some (.ref 0), some (.int a1), some (.int a2), none] [.int r1]
  refine G_if_eq 17 dX7_become_4 (by decide) (fun h3 => ?_) (fun h3 => ?_)
  · replace hf := ob_t h3 hf
    refine G_bipush (-2 : Int32) dX7_become_17 (by decide) ?_
    obtain rfl := os hf
    exact G_ireturn dX7_become_19 rfl
  · replace hf := ob_f h3 hf
    refine G_iload_n dX7_become_7 rfl rfl ?_
    refine G_if_lt 17 dX7_become_8 (by decide) (fun h4 => ?_) (fun h4 => ?_)
    · replace hf := ob_t h4 hf
      refine G_bipush (-2 : Int32) dX7_become_17 (by decide) ?_
      obtain rfl := os hf
      exact G_ireturn dX7_become_19 rfl
    · replace hf := ob_f h4 hf
      refine G_iload_n dX7_become_11 rfl rfl ?_
      refine G_bipush 9 dX7_become_12 (by decide) ?_
      refine G_icmp_le 20 dX7_become_14 (by decide) (fun h5 => ?_) (fun h5 => ?_)
      · replace hf := ob_t h5 hf
        refine G_aload_n dX7_become_20 rfl rfl ?_
        refine G_iload_n dX7_become_21 rfl rfl ?_
        refine G_iload_n dX7_become_22 rfl rfl ?_
        obtain ⟨⟨o6, o7, o8, o9, o10, o11, o12, o13, o14, o15, o16, o17, o18, o19, o20, o21, o22, o23, o24, o25, o26⟩, hc27, hf⟩ := ob hf
        refine G_callV (μ2 := mu_X7_findRow) (As := [.int a1, .int a2]) (w2 := (w_X7_become o6 o7 o8 o9 c_board_askers c_board_places o10 o11 o12 o13 o14 o15 o16 o17 o18 o19 o20 o21 c_board_seats c_board_told c_board_wishes o22 o23 o24 o25 o26 u_above u_below u_board_age)) (wc := (w_X7_findRow c_aimed_askers c_aimed_places c_aimed_seatBits c_aimed_entries c_board_askers c_board_places c_row c_aimed_best c_aimed_clipAll c_aimed_clipToOne c_aimed_clipToTwo c_aimed_firstOf c_aimed_gains c_aimed_left c_aimed_next c_aimed_solvedGains c_aimed_ways c_all_slots c_board_seats c_board_told c_board_wishes c_trade_gets c_trade_holderOf c_trade_holds c_trade_pointsAt c_trade_servedIn u_above u_below u_board_age)) (wc2 := (w_X7_findRow o6 o7 o8 o9 c_board_askers c_board_places o10 o11 o12 o13 o14 o15 o16 o17 o18 o19 o20 o21 c_board_seats c_board_told c_board_wishes o22 o23 o24 o25 o26 u_above u_below u_board_age)) (rest := []) (rv := []) [0, 1, 2, 3, 4, 5, 6, 7, 8, 9, 10, 11, 12, 13, 14, 15, 16, 17, 18, 19, 20, 21, 22, 23] [1000, 1001, 1002, 1003, 1004, 1005, 1006, 1007, 1008, 1009] [] [0, 1, 2, 3, 4, 5, 6, 7, 8, 9, 10, 11, 12, 13, 14, 15, 16, 17, 18, 19, 20, 21, 22, 23] (c_X7_findRow hc27) cw_X7_findRow m_X7_146 dX7_become_23 rfl ⟨leb rfl, leb rfl⟩ ⟨rfl, rfl⟩ rfl ⟨_, rfl, rfl⟩ (Fit.mk rfl rfl rfl) rfl (leb rfl) ⟨(List.forall_mem_cons.mpr ⟨⟨_, List.mem_of_getElem? (i := 0) rfl, rfl, rfl⟩, (List.forall_mem_cons.mpr ⟨⟨_, List.mem_of_getElem? (i := 1) rfl, rfl, rfl⟩, (List.forall_mem_cons.mpr ⟨⟨_, List.mem_of_getElem? (i := 2) rfl, rfl, rfl⟩, (fun _ h => absurd h List.not_mem_nil)⟩)⟩)⟩), (List.forall_mem_cons.mpr ⟨⟨_, List.mem_of_getElem? (i := 0) rfl, rfl, rfl, rfl⟩, (List.forall_mem_cons.mpr ⟨⟨_, List.mem_of_getElem? (i := 1) rfl, rfl, rfl, rfl⟩, (List.forall_mem_cons.mpr ⟨⟨_, List.mem_of_getElem? (i := 2) rfl, rfl, rfl, rfl⟩, (fun _ h => absurd h List.not_mem_nil)⟩)⟩)⟩)⟩ rfl ?_
        change GG _ _ _ _ _ _ _ _ _ (w_X7_become o6 o7 o8 o9 c_board_askers c_board_places o10 o11 o12 o13 o14 o15 o16 o17 o18 o19 o20 o21 c_board_seats c_board_told c_board_wishes o22 o23 o24 o25 o26 u_above u_below u_board_age) [some (.ref 0), some (.int a1), some (.int a2), none] []
        refine G_iconst 0 dX7_become_26 (by decide) ?_
        refine G_istore_n dX7_become_27 rfl (ltb rfl) ?_
        change GG _ _ _ _ _ _ _ _ _ _ [some (.ref 0), some (.int a1), some (.int a2), some (.int 0)] _
        refine GG.sb (lv2 := [some (.ref 0), some (.int a1), none, some (.int 0)]) ?_ (lvS_v rfl (lvS_v rfl (lvS_n (lvS_v rfl (lvS_e)))))
        exact g_X7_become_28 N hf
      · replace hf := ob_f h5 hf
        refine G_bipush (-2 : Int32) dX7_become_17 (by decide) ?_
        obtain rfl := os hf
        exact G_ireturn dX7_become_19 rfl
set_option maxRecDepth 20000 in
theorem dX7_has_0 : decode cX7_has 0 = .ok (.iload_n 1, 1) := by decide +kernel
set_option maxRecDepth 20000 in
theorem dX7_has_1 : decode cX7_has 1 = .ok (.invokestatic 135, 3) := by decide +kernel
set_option maxRecDepth 20000 in
theorem dX7_has_4 : decode cX7_has 4 = .ok (.ifCond .eq 14, 3) := by decide +kernel
set_option maxRecDepth 20000 in
theorem dX7_has_7 : decode cX7_has 7 = .ok (.aload_n 0, 1) := by decide +kernel
set_option maxRecDepth 20000 in
theorem dX7_has_8 : decode cX7_has 8 = .ok (.getfield 10, 3) := by decide +kernel
set_option maxRecDepth 20000 in
theorem dX7_has_11 : decode cX7_has 11 = .ok (.iload_n 2, 1) := by decide +kernel
set_option maxRecDepth 20000 in
theorem dX7_has_12 : decode cX7_has 12 = .ok (.invokevirtual 109, 3) := by decide +kernel
set_option maxRecDepth 20000 in
theorem dX7_has_15 : decode cX7_has 15 = .ok (.ifCond .ne 6, 3) := by decide +kernel
set_option maxRecDepth 20000 in
theorem dX7_has_18 : decode cX7_has 18 = .ok (.bipush (-2), 2) := by decide +kernel
set_option maxRecDepth 20000 in
theorem dX7_has_20 : decode cX7_has 20 = .ok (.ireturn, 1) := by decide +kernel
set_option maxRecDepth 20000 in
theorem dX7_has_21 : decode cX7_has 21 = .ok (.aload_n 0, 1) := by decide +kernel
set_option maxRecDepth 20000 in
theorem dX7_has_22 : decode cX7_has 22 = .ok (.getfield 10, 3) := by decide +kernel
set_option maxRecDepth 20000 in
theorem dX7_has_25 : decode cX7_has 25 = .ok (.iload_n 1, 1) := by decide +kernel
set_option maxRecDepth 20000 in
theorem dX7_has_26 : decode cX7_has 26 = .ok (.iload_n 2, 1) := by decide +kernel
set_option maxRecDepth 20000 in
theorem dX7_has_27 : decode cX7_has 27 = .ok (.invokevirtual 150, 3) := by decide +kernel
set_option maxRecDepth 20000 in
theorem dX7_has_30 : decode cX7_has 30 = .ok (.ireturn, 1) := by decide +kernel
def f_X7_has (N : Nat) (c_board_askers : Int32) (c_board_told : Nat → Int32) (a1 : Int32) (a2 : Int32) : Option (Int32) :=
  (f_X7_isTold N a1).bind fun r1 =>
  (if r1 = 0 then
    some (-2 : Int32)
  else
    (f_X0_isAsker N c_board_askers a2).bind fun r4 =>
    (if r4 = 0 then
      some (-2 : Int32)
    else
      (f_X0_toldOf N c_board_told a1 a2).bind fun r7 =>
      some r7))
set_option maxHeartbeats 4000000 in
set_option maxRecDepth 100000 in
theorem c_X7_has {N : Nat} {c_board_askers : Int32} {c_board_told : Nat → Int32}  {u_above : Int64} {u_below : Int64} {u_board_places : Int32} {u_board_age : Int32} {a1 : Int32} {a2 : Int32} {res : Int32} (hf : f_X7_has N c_board_askers c_board_told a1 a2 = some res) : Con mu_X7_has [.ref 0, .int a1, .int a2] (w_X7_has c_board_askers c_board_told u_above u_below u_board_places u_board_age) (some (.int res)) (w_X7_has c_board_askers c_board_told u_above u_below u_board_places u_board_age) := by
  refine Con.mk (show plainName RX7 = true by decide +kernel) (leb rfl) (fun κ ω A ad => ?_)
  change GG mu_X7_has κ ω A (QR κ ω A ad (some (.int res)) (w_X7_has c_board_askers c_board_told u_above u_below u_board_places u_board_age)) ad 0 0 0 (w_X7_has c_board_askers c_board_told u_above u_below u_board_places u_board_age) [some (.ref 0), some (.int a1), some (.int a2)] []
  refine G_iload_n dX7_has_0 rfl rfl ?_
  obtain ⟨r1, hc2, hf⟩ := ob hf
  refine G_callS (μ2 := mu_X7_isTold) (As := [.int a1]) (w2 := (w_X7_has c_board_askers c_board_told u_above u_below u_board_places u_board_age)) (wc := []) (wc2 := []) (rest := []) (rv := [.int r1]) [] [] [0, 1, 2] [0, 1, 2] (c_X7_isTold hc2) cw_X7_isTold m_X7_135 rfl dX7_has_1 rfl ⟨leb rfl, leb rfl⟩ ⟨rfl, rfl⟩ (Fit.mk rfl rfl rfl) rfl (leb rfl) (ROsub.nil rfl rfl) rfl ?_
  change GG _ _ _ _ _ _ _ _ _ (w_X7_has c_board_askers c_board_told u_above u_below u_board_places u_board_age) [some (.ref 0), some (.int a1), some (.int a2)] [.int r1]
  refine G_if_eq 18 dX7_has_4 (by decide) (fun h3 => ?_) (fun h3 => ?_)
  · replace hf := ob_t h3 hf
    refine G_bipush (-2 : Int32) dX7_has_18 (by decide) ?_
    obtain rfl := os hf
    exact G_ireturn dX7_has_20 rfl
  · replace hf := ob_f h3 hf
    refine G_aload_n dX7_has_7 rfl rfl ?_
    refine G_get (v := .ref 1) F_X7_10 dX7_has_8 rfl rfl ?_
    refine G_iload_n dX7_has_11 rfl rfl ?_
    obtain ⟨r4, hc5, hf⟩ := ob hf
    refine G_callV (μ2 := mu_X0_isAsker) (As := [.int a2]) (w2 := (w_X7_has c_board_askers c_board_told u_above u_below u_board_places u_board_age)) (wc := (w_X0_isAsker c_board_askers u_board_places u_board_age)) (wc2 := (w_X0_isAsker c_board_askers u_board_places u_board_age)) (rest := []) (rv := [.int r4]) [1] [1009, 1010, 1011, 2] [0, 2] [0, 2, 1] (c_X0_isAsker hc5) cw_X0_isAsker m_X7_109 dX7_has_12 rfl ⟨leb rfl, leb rfl⟩ ⟨rfl, rfl⟩ rfl ⟨_, rfl, rfl⟩ (Fit.mk rfl rfl rfl) rfl (leb rfl) (ROsub.nil rfl rfl) rfl ?_
    change GG _ _ _ _ _ _ _ _ _ (w_X7_has c_board_askers c_board_told u_above u_below u_board_places u_board_age) [some (.ref 0), some (.int a1), some (.int a2)] [.int r4]
    refine G_if_ne 21 dX7_has_15 (by decide) (fun h6 => ?_) (fun h6 => ?_)
    · replace hf := ob_f h6 hf
      refine G_aload_n dX7_has_21 rfl rfl ?_
      refine G_get (v := .ref 1) F_X7_10 dX7_has_22 rfl rfl ?_
      refine G_iload_n dX7_has_25 rfl rfl ?_
      refine G_iload_n dX7_has_26 rfl rfl ?_
      obtain ⟨r7, hc8, hf⟩ := ob hf
      refine G_callV (μ2 := mu_X0_toldOf) (As := [.int a1, .int a2]) (w2 := (w_X7_has c_board_askers c_board_told u_above u_below u_board_places u_board_age)) (wc := (w_X0_toldOf c_board_told c_board_askers u_board_places u_board_age)) (wc2 := (w_X0_toldOf c_board_told c_board_askers u_board_places u_board_age)) (rest := []) (rv := [.int r7]) [1, 2] [1009, 1010, 1011] [0] [0, 1, 2] (c_X0_toldOf hc8) cw_X0_toldOf m_X7_150 dX7_has_27 rfl ⟨leb rfl, leb rfl⟩ ⟨rfl, rfl⟩ rfl ⟨_, rfl, rfl⟩ (Fit.mk rfl rfl rfl) rfl (leb rfl) (ROsub.nil rfl rfl) rfl ?_
      change GG _ _ _ _ _ _ _ _ _ (w_X7_has c_board_askers c_board_told u_above u_below u_board_places u_board_age) [some (.ref 0), some (.int a1), some (.int a2)] [.int r7]
      obtain rfl := os hf
      exact G_ireturn dX7_has_30 rfl
    · replace hf := ob_t h6 hf
      refine G_bipush (-2 : Int32) dX7_has_18 (by decide) ?_
      obtain rfl := os hf
      exact G_ireturn dX7_has_20 rfl
set_option maxRecDepth 20000 in
theorem dX7_placeOf_0 : decode cX7_placeOf 0 = .ok (.iload_n 1, 1) := by decide +kernel
set_option maxRecDepth 20000 in
theorem dX7_placeOf_1 : decode cX7_placeOf 1 = .ok (.invokestatic 135, 3) := by decide +kernel
set_option maxRecDepth 20000 in
theorem dX7_placeOf_4 : decode cX7_placeOf 4 = .ok (.ifCond .ne 7, 3) := by decide +kernel
set_option maxRecDepth 20000 in
theorem dX7_placeOf_7 : decode cX7_placeOf 7 = .ok (.ldc2_w 153, 3) := by decide +kernel
set_option maxRecDepth 20000 in
theorem dX7_placeOf_10 : decode cX7_placeOf 10 = .ok (.lreturn, 1) := by decide +kernel
set_option maxRecDepth 20000 in
theorem dX7_placeOf_11 : decode cX7_placeOf 11 = .ok (.aload_n 0, 1) := by decide +kernel
set_option maxRecDepth 20000 in
theorem dX7_placeOf_12 : decode cX7_placeOf 12 = .ok (.invokevirtual 121, 3) := by decide +kernel
set_option maxRecDepth 20000 in
theorem dX7_placeOf_15 : decode cX7_placeOf 15 = .ok (.aload_n 0, 1) := by decide +kernel
set_option maxRecDepth 20000 in
theorem dX7_placeOf_16 : decode cX7_placeOf 16 = .ok (.iload_n 1, 1) := by decide +kernel
set_option maxRecDepth 20000 in
theorem dX7_placeOf_17 : decode cX7_placeOf 17 = .ok (.invokevirtual 155, 3) := by decide +kernel
set_option maxRecDepth 20000 in
theorem dX7_placeOf_20 : decode cX7_placeOf 20 = .ok (.aload_n 0, 1) := by decide +kernel
set_option maxRecDepth 20000 in
theorem dX7_placeOf_21 : decode cX7_placeOf 21 = .ok (.getfield 21, 3) := by decide +kernel
set_option maxRecDepth 20000 in
theorem dX7_placeOf_24 : decode cX7_placeOf 24 = .ok (.aload_n 0, 1) := by decide +kernel
set_option maxRecDepth 20000 in
theorem dX7_placeOf_25 : decode cX7_placeOf 25 = .ok (.getfield 68, 3) := by decide +kernel
set_option maxRecDepth 20000 in
theorem dX7_placeOf_28 : decode cX7_placeOf 28 = .ok (.invokevirtual 159, 3) := by decide +kernel
set_option maxRecDepth 20000 in
theorem dX7_placeOf_31 : decode cX7_placeOf 31 = .ok (.i2l, 1) := by decide +kernel
set_option maxRecDepth 20000 in
theorem dX7_placeOf_32 : decode cX7_placeOf 32 = .ok (.lreturn, 1) := by decide +kernel
def f_X7_placeOf (N : Nat) (c_board_askers : Int32) (c_board_places : Int32) (c_board_seats : Nat → Int32) (c_board_told : Nat → Int32) (c_board_wishes : Nat → Int32) (c_all_askers : Int32) (c_all_places : Int32) (c_all_seatBits : Int32) (c_all_entries : Int32) (c_row : Nat → Int32) (c_all_best : Nat → Int32) (c_all_clipAll : Nat → Int32) (c_all_clipToOne : Nat → Int32) (c_all_clipToTwo : Nat → Int32) (c_all_firstOf : Nat → Int32) (c_all_gains : Nat → Int32) (c_all_left : Nat → Int32) (c_all_next : Nat → Int32) (c_all_slots : Nat → Int32) (c_all_solvedGains : Nat → Int32) (c_all_ways : Nat → Int32) (a1 : Int32) : Option (Int64 × Int32 × Int32 × Int32 × Int32 × (Nat → Int32) × (Nat → Int32) × (Nat → Int32) × (Nat → Int32) × (Nat → Int32) × (Nat → Int32) × (Nat → Int32) × (Nat → Int32) × (Nat → Int32) × (Nat → Int32) × (Nat → Int32) × (Nat → Int32)) :=
  (f_X7_isTold N a1).bind fun r1 =>
  (if r1 = 0 then
    some ((-2 : Int64), c_all_askers, c_all_places, c_all_seatBits, c_all_entries, c_row, c_all_best, c_all_clipAll, c_all_clipToOne, c_all_clipToTwo, c_all_firstOf, c_all_gains, c_all_left, c_all_next, c_all_slots, c_all_solvedGains, c_all_ways)
  else
    (f_X7_solveAll N c_board_askers c_board_places c_board_seats c_board_wishes c_all_askers c_all_places c_all_seatBits c_all_entries c_all_best c_all_clipAll c_all_clipToOne c_all_clipToTwo c_all_firstOf c_all_gains c_all_left c_all_next c_all_slots c_all_solvedGains c_all_ways).bind fun (o4, o5, o6, o7, o8, o9, o10, o11, o12, o13, o14, o15, o16, o17, o18) =>
    (f_X7_copyTold N c_board_askers c_board_told c_row a1).bind fun o20 =>
    (f_X4_rankOf N o4 o20 o8 o15 o17 o18).bind fun r22 =>
    some (r22.toInt64, o4, o5, o6, o7, o20, o8, o9, o10, o11, o12, o13, o14, o15, o16, o17, o18))
set_option maxHeartbeats 4000000 in
set_option maxRecDepth 100000 in
theorem c_X7_placeOf {N : Nat} {c_board_askers : Int32} {c_board_places : Int32} {c_board_seats : Nat → Int32} {c_board_told : Nat → Int32} {c_board_wishes : Nat → Int32} {c_all_askers : Int32} {c_all_places : Int32} {c_all_seatBits : Int32} {c_all_entries : Int32} {c_row : Nat → Int32} {c_all_best : Nat → Int32} {c_all_clipAll : Nat → Int32} {c_all_clipToOne : Nat → Int32} {c_all_clipToTwo : Nat → Int32} {c_all_firstOf : Nat → Int32} {c_all_gains : Nat → Int32} {c_all_left : Nat → Int32} {c_all_next : Nat → Int32} {c_all_slots : Nat → Int32} {c_all_solvedGains : Nat → Int32} {c_all_ways : Nat → Int32} {u_above : Int64} {u_below : Int64} {u_board_age : Int32} {a1 : Int32} {res : Int64 × Int32 × Int32 × Int32 × Int32 × (Nat → Int32) × (Nat → Int32) × (Nat → Int32) × (Nat → Int32) × (Nat → Int32) × (Nat → Int32) × (Nat → Int32) × (Nat → Int32) × (Nat → Int32) × (Nat → Int32) × (Nat → Int32) × (Nat → Int32)} (hf : f_X7_placeOf N c_board_askers c_board_places c_board_seats c_board_told c_board_wishes c_all_askers c_all_places c_all_seatBits c_all_entries c_row c_all_best c_all_clipAll c_all_clipToOne c_all_clipToTwo c_all_firstOf c_all_gains c_all_left c_all_next c_all_slots c_all_solvedGains c_all_ways a1 = some res) : Con mu_X7_placeOf [.ref 0, .int a1] (w_X7_placeOf c_all_askers c_all_places c_all_seatBits c_all_entries c_board_askers c_board_places c_row c_all_best c_all_clipAll c_all_clipToOne c_all_clipToTwo c_all_firstOf c_all_gains c_all_left c_all_next c_all_slots c_all_solvedGains c_all_ways c_board_seats c_board_told c_board_wishes u_above u_below u_board_age) (some (.long res.1)) (w_X7_placeOf res.2.1 res.2.2.1 res.2.2.2.1 res.2.2.2.2.1 c_board_askers c_board_places res.2.2.2.2.2.1 res.2.2.2.2.2.2.1 res.2.2.2.2.2.2.2.1 res.2.2.2.2.2.2.2.2.1 res.2.2.2.2.2.2.2.2.2.1 res.2.2.2.2.2.2.2.2.2.2.1 res.2.2.2.2.2.2.2.2.2.2.2.1 res.2.2.2.2.2.2.2.2.2.2.2.2.1 res.2.2.2.2.2.2.2.2.2.2.2.2.2.1 res.2.2.2.2.2.2.2.2.2.2.2.2.2.2.1 res.2.2.2.2.2.2.2.2.2.2.2.2.2.2.2.1 res.2.2.2.2.2.2.2.2.2.2.2.2.2.2.2.2 c_board_seats c_board_told c_board_wishes u_above u_below u_board_age) := by
  refine Con.mk (show plainName RX7 = true by decide +kernel) (leb rfl) (fun κ ω A ad => ?_)
  change GG mu_X7_placeOf κ ω A (QR κ ω A ad (some (.long res.1)) (w_X7_placeOf res.2.1 res.2.2.1 res.2.2.2.1 res.2.2.2.2.1 c_board_askers c_board_places res.2.2.2.2.2.1 res.2.2.2.2.2.2.1 res.2.2.2.2.2.2.2.1 res.2.2.2.2.2.2.2.2.1 res.2.2.2.2.2.2.2.2.2.1 res.2.2.2.2.2.2.2.2.2.2.1 res.2.2.2.2.2.2.2.2.2.2.2.1 res.2.2.2.2.2.2.2.2.2.2.2.2.1 res.2.2.2.2.2.2.2.2.2.2.2.2.2.1 res.2.2.2.2.2.2.2.2.2.2.2.2.2.2.1 res.2.2.2.2.2.2.2.2.2.2.2.2.2.2.2.1 res.2.2.2.2.2.2.2.2.2.2.2.2.2.2.2.2 c_board_seats c_board_told c_board_wishes u_above u_below u_board_age)) ad 0 0 0 (w_X7_placeOf c_all_askers c_all_places c_all_seatBits c_all_entries c_board_askers c_board_places c_row c_all_best c_all_clipAll c_all_clipToOne c_all_clipToTwo c_all_firstOf c_all_gains c_all_left c_all_next c_all_slots c_all_solvedGains c_all_ways c_board_seats c_board_told c_board_wishes u_above u_below u_board_age) [some (.ref 0), some (.int a1)] []
  refine G_iload_n dX7_placeOf_0 rfl rfl ?_
  obtain ⟨r1, hc2, hf⟩ := ob hf
  refine G_callS (μ2 := mu_X7_isTold) (As := [.int a1]) (w2 := (w_X7_placeOf c_all_askers c_all_places c_all_seatBits c_all_entries c_board_askers c_board_places c_row c_all_best c_all_clipAll c_all_clipToOne c_all_clipToTwo c_all_firstOf c_all_gains c_all_left c_all_next c_all_slots c_all_solvedGains c_all_ways c_board_seats c_board_told c_board_wishes u_above u_below u_board_age)) (wc := []) (wc2 := []) (rest := []) (rv := [.int r1]) [] [] [0, 1, 2, 3, 4, 5, 6, 7, 8, 9, 10, 11, 12, 13, 14, 15, 16, 17] [0, 1, 2, 3, 4, 5, 6, 7, 8, 9, 10, 11, 12, 13, 14, 15, 16, 17] (c_X7_isTold hc2) cw_X7_isTold m_X7_135 rfl dX7_placeOf_1 rfl ⟨leb rfl, leb rfl⟩ ⟨rfl, rfl⟩ (Fit.mk rfl rfl rfl) rfl (leb rfl) (ROsub.nil rfl rfl) rfl ?_
  change GG _ _ _ _ _ _ _ _ _ (w_X7_placeOf c_all_askers c_all_places c_all_seatBits c_all_entries c_board_askers c_board_places c_row c_all_best c_all_clipAll c_all_clipToOne c_all_clipToTwo c_all_firstOf c_all_gains c_all_left c_all_next c_all_slots c_all_solvedGains c_all_ways c_board_seats c_board_told c_board_wishes u_above u_below u_board_age) [some (.ref 0), some (.int a1)] [.int r1]
  refine G_if_ne 11 dX7_placeOf_4 (by decide) (fun h3 => ?_) (fun h3 => ?_)
  · replace hf := ob_f h3 hf
    refine G_aload_n dX7_placeOf_11 rfl rfl ?_
    obtain ⟨⟨o4, o5, o6, o7, o8, o9, o10, o11, o12, o13, o14, o15, o16, o17, o18⟩, hc19, hf⟩ := ob hf
    refine G_callV (μ2 := mu_X7_solveAll) (As := []) (w2 := (w_X7_placeOf o4 o5 o6 o7 c_board_askers c_board_places c_row o8 o9 o10 o11 o12 o13 o14 o15 o16 o17 o18 c_board_seats c_board_told c_board_wishes u_above u_below u_board_age)) (wc := (w_X7_solveAll c_all_askers c_all_places c_all_seatBits c_all_entries c_board_askers c_board_places c_all_best c_all_clipAll c_all_clipToOne c_all_clipToTwo c_all_firstOf c_all_gains c_all_left c_all_next c_all_slots c_all_solvedGains c_all_ways c_board_seats c_board_wishes u_above u_below u_board_age)) (wc2 := (w_X7_solveAll o4 o5 o6 o7 c_board_askers c_board_places o8 o9 o10 o11 o12 o13 o14 o15 o16 o17 o18 c_board_seats c_board_wishes u_above u_below u_board_age)) (rest := []) (rv := []) [0, 1, 2, 4, 5, 6, 7, 8, 9, 10, 11, 12, 13, 14, 15, 17] [1000, 1001, 1002, 1003, 1004, 1005, 1006, 3, 1007, 16] [3, 16] [2, 3, 4, 0, 5, 6, 7, 8, 9, 10, 11, 12, 13, 14, 15, 16, 1, 17] (c_X7_solveAll hc19) cw_X7_solveAll m_X7_121 dX7_placeOf_12 rfl ⟨leb rfl, leb rfl⟩ ⟨rfl, rfl⟩ rfl ⟨_, rfl, rfl⟩ (Fit.mk rfl rfl rfl) rfl (leb rfl) (ROsub.nil rfl rfl) rfl ?_
    change GG _ _ _ _ _ _ _ _ _ (w_X7_placeOf o4 o5 o6 o7 c_board_askers c_board_places c_row o8 o9 o10 o11 o12 o13 o14 o15 o16 o17 o18 c_board_seats c_board_told c_board_wishes u_above u_below u_board_age) [some (.ref 0), some (.int a1)] []
    refine G_aload_n dX7_placeOf_15 rfl rfl ?_
    refine G_iload_n dX7_placeOf_16 rfl rfl ?_
    obtain ⟨o20, hc21, hf⟩ := ob hf
    refine G_callV (μ2 := mu_X7_copyTold) (As := [.int a1]) (w2 := (w_X7_placeOf o4 o5 o6 o7 c_board_askers c_board_places o20 o8 o9 o10 o11 o12 o13 o14 o15 o16 o17 o18 c_board_seats c_board_told c_board_wishes u_above u_below u_board_age)) (wc := (w_X7_copyTold c_board_askers c_row c_board_told u_above u_below c_board_places u_board_age)) (wc2 := (w_X7_copyTold c_board_askers o20 c_board_told u_above u_below c_board_places u_board_age)) (rest := []) (rv := []) [0, 2, 3, 16] [1, 1000, 1001, 1002, 1003, 1004, 1005, 1006, 15, 17, 1007] [1, 4, 5, 6, 7, 8, 9, 10, 11, 12, 13, 14, 15, 17] [14, 0, 15, 16, 1, 2, 3, 4, 5, 6, 7, 8, 9, 10, 11, 12, 17, 13] (c_X7_copyTold hc21) cw_X7_copyTold m_X7_155 dX7_placeOf_17 rfl ⟨leb rfl, leb rfl⟩ ⟨rfl, rfl⟩ rfl ⟨_, rfl, rfl⟩ (Fit.mk rfl rfl rfl) rfl (leb rfl) (ROsub.nil rfl rfl) rfl ?_
    change GG _ _ _ _ _ _ _ _ _ (w_X7_placeOf o4 o5 o6 o7 c_board_askers c_board_places o20 o8 o9 o10 o11 o12 o13 o14 o15 o16 o17 o18 c_board_seats c_board_told c_board_wishes u_above u_below u_board_age) [some (.ref 0), some (.int a1)] []
    refine G_aload_n dX7_placeOf_20 rfl rfl ?_
    refine G_get (v := .ref 1) F_X7_21 dX7_placeOf_21 rfl rfl ?_
    refine G_aload_n dX7_placeOf_24 rfl rfl ?_
    refine G_get (v := .ref 3) F_X7_68 dX7_placeOf_25 rfl rfl ?_
    obtain ⟨r22, hc23, hf⟩ := ob hf
    refine G_callV (μ2 := mu_X4_rankOf) (As := [.ref 1]) (w2 := (w_X7_placeOf o4 o5 o6 o7 c_board_askers c_board_places o20 o8 o9 o10 o11 o12 o13 o14 o15 o16 o17 o18 c_board_seats c_board_told c_board_wishes u_above u_below u_board_age)) (wc := (w_X4_rankOf o4 o20 o8 o15 o17 o18 o5 o6 o7)) (wc2 := (w_X4_rankOf o4 o20 o8 o15 o17 o18 o5 o6 o7)) (rest := []) (rv := [.int r22]) [1, 3, 4, 11, 13, 14] [2, 9, 10, 8, 12, 5, 6, 7] [0, 2, 5, 6, 7, 8, 9, 10, 12, 15, 16, 17] [0, 12, 1, 13, 14, 2, 3, 4, 5, 6, 7, 15, 8, 16, 17, 9, 10, 11] (c_X4_rankOf hc23) cw_X4_rankOf m_X7_159 dX7_placeOf_28 rfl ⟨leb rfl, leb rfl⟩ ⟨rfl, rfl⟩ rfl ⟨_, rfl, rfl⟩ (Fit.mk rfl rfl rfl) rfl (leb rfl) (ROsub.nil rfl rfl) rfl ?_
    change GG _ _ _ _ _ _ _ _ _ (w_X7_placeOf o4 o5 o6 o7 c_board_askers c_board_places o20 o8 o9 o10 o11 o12 o13 o14 o15 o16 o17 o18 c_board_seats c_board_told c_board_wishes u_above u_below u_board_age) [some (.ref 0), some (.int a1)] [.int r22]
    refine G_i2l dX7_placeOf_31 ?_
    obtain rfl := os hf
    exact G_lreturn dX7_placeOf_32 rfl
  · replace hf := ob_t h3 hf
    refine G_ldc2 (v := (-2 : Int64)) dX7_placeOf_7 k_X7_153 ?_
    obtain rfl := os hf
    exact G_lreturn dX7_placeOf_10 rfl
set_option maxRecDepth 20000 in
theorem dX7_many_0 : decode cX7_many 0 = .ok (.iload_n 1, 1) := by decide +kernel
set_option maxRecDepth 20000 in
theorem dX7_many_1 : decode cX7_many 1 = .ok (.invokestatic 135, 3) := by decide +kernel
set_option maxRecDepth 20000 in
theorem dX7_many_4 : decode cX7_many 4 = .ok (.ifCond .eq 14, 3) := by decide +kernel
set_option maxRecDepth 20000 in
theorem dX7_many_7 : decode cX7_many 7 = .ok (.iload_n 2, 1) := by decide +kernel
set_option maxRecDepth 20000 in
theorem dX7_many_8 : decode cX7_many 8 = .ok (.iconst 1, 1) := by decide +kernel
set_option maxRecDepth 20000 in
theorem dX7_many_9 : decode cX7_many 9 = .ok (.if_icmp .lt 9, 3) := by decide +kernel
set_option maxRecDepth 20000 in
theorem dX7_many_12 : decode cX7_many 12 = .ok (.iload_n 2, 1) := by decide +kernel
set_option maxRecDepth 20000 in
theorem dX7_many_13 : decode cX7_many 13 = .ok (.bipush 7, 2) := by decide +kernel
set_option maxRecDepth 20000 in
theorem dX7_many_15 : decode cX7_many 15 = .ok (.if_icmp .le 6, 3) := by decide +kernel
set_option maxRecDepth 20000 in
theorem dX7_many_18 : decode cX7_many 18 = .ok (.bipush (-2), 2) := by decide +kernel
set_option maxRecDepth 20000 in
theorem dX7_many_20 : decode cX7_many 20 = .ok (.ireturn, 1) := by decide +kernel
set_option maxRecDepth 20000 in
theorem dX7_many_21 : decode cX7_many 21 = .ok (.iconst 0, 1) := by decide +kernel
set_option maxRecDepth 20000 in
theorem dX7_many_22 : decode cX7_many 22 = .ok (.istore_n 3, 1) := by decide +kernel
set_option maxRecDepth 20000 in
theorem dX7_many_23 : decode cX7_many 23 = .ok (.iconst 0, 1) := by decide +kernel
set_option maxRecDepth 20000 in
theorem dX7_many_24 : decode cX7_many 24 = .ok (.istore 4, 2) := by decide +kernel
set_option maxRecDepth 20000 in
theorem dX7_many_26 : decode cX7_many 26 = .ok (.iload 4, 2) := by decide +kernel
set_option maxRecDepth 20000 in
theorem dX7_many_28 : decode cX7_many 28 = .ok (.aload_n 0, 1) := by decide +kernel
set_option maxRecDepth 20000 in
theorem dX7_many_29 : decode cX7_many 29 = .ok (.getfield 10, 3) := by decide +kernel
set_option maxRecDepth 20000 in
theorem dX7_many_32 : decode cX7_many 32 = .ok (.getfield 79, 3) := by decide +kernel
set_option maxRecDepth 20000 in
theorem dX7_many_35 : decode cX7_many 35 = .ok (.if_icmp .ge 26, 3) := by decide +kernel
set_option maxRecDepth 20000 in
theorem dX7_many_38 : decode cX7_many 38 = .ok (.aload_n 0, 1) := by decide +kernel
set_option maxRecDepth 20000 in
theorem dX7_many_39 : decode cX7_many 39 = .ok (.getfield 10, 3) := by decide +kernel
set_option maxRecDepth 20000 in
theorem dX7_many_42 : decode cX7_many 42 = .ok (.iload_n 1, 1) := by decide +kernel
set_option maxRecDepth 20000 in
theorem dX7_many_43 : decode cX7_many 43 = .ok (.iload 4, 2) := by decide +kernel
set_option maxRecDepth 20000 in
theorem dX7_many_45 : decode cX7_many 45 = .ok (.invokevirtual 163, 3) := by decide +kernel
set_option maxRecDepth 20000 in
theorem dX7_many_48 : decode cX7_many 48 = .ok (.iload_n 2, 1) := by decide +kernel
set_option maxRecDepth 20000 in
theorem dX7_many_49 : decode cX7_many 49 = .ok (.if_icmp .ne 6, 3) := by decide +kernel
set_option maxRecDepth 20000 in
theorem dX7_many_52 : decode cX7_many 52 = .ok (.iinc 3 1, 3) := by decide +kernel
set_option maxRecDepth 20000 in
theorem dX7_many_55 : decode cX7_many 55 = .ok (.iinc 4 1, 3) := by decide +kernel
set_option maxRecDepth 20000 in
theorem dX7_many_58 : decode cX7_many 58 = .ok (.goto (-32), 3) := by decide +kernel
set_option maxRecDepth 20000 in
theorem dX7_many_61 : decode cX7_many 61 = .ok (.iload_n 3, 1) := by decide +kernel
set_option maxRecDepth 20000 in
theorem dX7_many_62 : decode cX7_many 62 = .ok (.ireturn, 1) := by decide +kernel
def f_X7_many_26 (N : Nat) (c_board_askers : Int32) (c_board_told : Nat → Int32) (c_board_wishes : Nat → Int32) : Nat → Int32 → Int32 → Int32 → Int32 → Option (Int32)
  | 0, _, _, _, _ => none
  | n + 1, v1, v2, v3, v4 =>
    (if c_board_askers ≤ v4 then
      some v3
    else
      (f_X0_toldWorth N c_board_told c_board_wishes v1 v4).bind fun r2 =>
      (if r2 = v2 then
        f_X7_many_26 N c_board_askers c_board_told c_board_wishes n v1 v2 (v3 + 1) (v4 + 1)
      else
        f_X7_many_26 N c_board_askers c_board_told c_board_wishes n v1 v2 v3 (v4 + 1)))
set_option maxHeartbeats 4000000 in
set_option maxRecDepth 100000 in
theorem g_X7_many_26 {κ : KC} {ω : KW} {A : Nat → Prop} {ad : Nat → Nat} {u_above : Int64} {u_below : Int64} {u_board_places : Int32} {u_board_age : Int32} {N : Nat} {c_board_askers : Int32} {c_board_told : Nat → Int32} {c_board_wishes : Nat → Int32}  {res : Int32} : ∀ (n : Nat) {v1 : Int32} {v2 : Int32} {v3 : Int32} {v4 : Int32}, f_X7_many_26 N c_board_askers c_board_told c_board_wishes n v1 v2 v3 v4 = some res → GG mu_X7_many κ ω A (QR κ ω A ad (some (.int res)) (w_X7_many c_board_askers c_board_told c_board_wishes u_above u_below u_board_places u_board_age)) ad 0 0 26 (w_X7_many c_board_askers c_board_told c_board_wishes u_above u_below u_board_places u_board_age) [some (.ref 0), some (.int v1), some (.int v2), some (.int v3), some (.int v4)] [] := by
  intro n
  induction n with
  | zero => intro v1 v2 v3 v4 hf; exact ob_0 hf
  | succ n ih =>
    intro v1 v2 v3 v4 hf
    refine G_iload dX7_many_26 rfl ?_
    refine G_aload_n dX7_many_28 rfl rfl ?_
    refine G_get (v := .ref 1) F_X7_10 dX7_many_29 rfl rfl ?_
    refine G_get (v := .int c_board_askers) F_X7_79 dX7_many_32 rfl rfl ?_
    refine G_icmp_ge 61 dX7_many_35 (by decide) (fun h1 => ?_) (fun h1 => ?_)
    · replace hf := ob_t h1 hf
      refine G_iload_n dX7_many_61 rfl rfl ?_
      obtain rfl := os hf
      exact G_ireturn dX7_many_62 rfl
    · replace hf := ob_f h1 hf
      refine G_aload_n dX7_many_38 rfl rfl ?_
      refine G_get (v := .ref 1) F_X7_10 dX7_many_39 rfl rfl ?_
      refine G_iload_n dX7_many_42 rfl rfl ?_
      refine G_iload dX7_many_43 rfl ?_
      obtain ⟨r2, hc3, hf⟩ := ob hf
      refine G_callV (μ2 := mu_X0_toldWorth) (As := [.int v1, .int v4]) (w2 := (w_X7_many c_board_askers c_board_told c_board_wishes u_above u_below u_board_places u_board_age)) (wc := (w_X0_toldWorth c_board_told c_board_wishes c_board_askers u_board_places u_board_age)) (wc2 := (w_X0_toldWorth c_board_told c_board_wishes c_board_askers u_board_places u_board_age)) (rest := []) (rv := [.int r2]) [1, 2, 3] [1009, 1010] [0] [0, 1, 2, 3] (c_X0_toldWorth hc3) cw_X0_toldWorth m_X7_163 dX7_many_45 rfl ⟨leb rfl, leb rfl⟩ ⟨rfl, rfl⟩ rfl ⟨_, rfl, rfl⟩ (Fit.mk rfl rfl rfl) rfl (leb rfl) (ROsub.nil rfl rfl) rfl ?_
      change GG _ _ _ _ _ _ _ _ _ (w_X7_many c_board_askers c_board_told c_board_wishes u_above u_below u_board_places u_board_age) [some (.ref 0), some (.int v1), some (.int v2), some (.int v3), some (.int v4)] [.int r2]
      refine G_iload_n dX7_many_48 rfl rfl ?_
      refine G_icmp_ne 55 dX7_many_49 (by decide) (fun h4 => ?_) (fun h4 => ?_)
      · replace hf := ob_f h4 hf
        refine G_iinc 1 dX7_many_55 (by decide) rfl (ltb rfl) ?_
        change GG _ _ _ _ _ _ _ _ _ _ [some (.ref 0), some (.int v1), some (.int v2), some (.int v3), some (.int (v4 + 1))] _
        refine G_goto 26 dX7_many_58 (by decide) ?_
        exact ih hf
      · replace hf := ob_t h4 hf
        refine G_iinc 1 dX7_many_52 (by decide) rfl (ltb rfl) ?_
        change GG _ _ _ _ _ _ _ _ _ _ [some (.ref 0), some (.int v1), some (.int v2), some (.int (v3 + 1)), some (.int v4)] _
        refine G_iinc 1 dX7_many_55 (by decide) rfl (ltb rfl) ?_
        change GG _ _ _ _ _ _ _ _ _ _ [some (.ref 0), some (.int v1), some (.int v2), some (.int (v3 + 1)), some (.int (v4 + 1))] _
        refine G_goto 26 dX7_many_58 (by decide) ?_
        exact ih hf
def f_X7_many (N : Nat) (c_board_askers : Int32) (c_board_told : Nat → Int32) (c_board_wishes : Nat → Int32) (a1 : Int32) (a2 : Int32) : Option (Int32) :=
  (f_X7_isTold N a1).bind fun r1 =>
  (if r1 = 0 then
    some (-2 : Int32)
  else
    (if a2 < 1 then
      some (-2 : Int32)
    else
      (if a2 ≤ 7 then
        f_X7_many_26 N c_board_askers c_board_told c_board_wishes N a1 a2 0 0
      else
        some (-2 : Int32))))
set_option maxHeartbeats 4000000 in
set_option maxRecDepth 100000 in
theorem c_X7_many {N : Nat} {c_board_askers : Int32} {c_board_told : Nat → Int32} {c_board_wishes : Nat → Int32}  {u_above : Int64} {u_below : Int64} {u_board_places : Int32} {u_board_age : Int32} {a1 : Int32} {a2 : Int32} {res : Int32} (hf : f_X7_many N c_board_askers c_board_told c_board_wishes a1 a2 = some res) : Con mu_X7_many [.ref 0, .int a1, .int a2] (w_X7_many c_board_askers c_board_told c_board_wishes u_above u_below u_board_places u_board_age) (some (.int res)) (w_X7_many c_board_askers c_board_told c_board_wishes u_above u_below u_board_places u_board_age) := by
  refine Con.mk (show plainName RX7 = true by decide +kernel) (leb rfl) (fun κ ω A ad => ?_)
  change GG mu_X7_many κ ω A (QR κ ω A ad (some (.int res)) (w_X7_many c_board_askers c_board_told c_board_wishes u_above u_below u_board_places u_board_age)) ad 0 0 0 (w_X7_many c_board_askers c_board_told c_board_wishes u_above u_below u_board_places u_board_age) [some (.ref 0), some (.int a1), some (.int a2), none, none] []
  refine G_iload_n dX7_many_0 rfl rfl ?_
  obtain ⟨r1, hc2, hf⟩ := ob hf
  refine G_callS (μ2 := mu_X7_isTold) (As := [.int a1]) (w2 := (w_X7_many c_board_askers c_board_told c_board_wishes u_above u_below u_board_places u_board_age)) (wc := []) (wc2 := []) (rest := []) (rv := [.int r1]) [] [] [0, 1, 2, 3] [0, 1, 2, 3] (c_X7_isTold hc2) cw_X7_isTold m_X7_135 rfl dX7_many_1 rfl ⟨leb rfl, leb rfl⟩ ⟨rfl, rfl⟩ (Fit.mk rfl rfl rfl) rfl (leb rfl) (ROsub.nil rfl rfl) rfl ?_
  change GG _ _ _ _ _ _ _ _ _ (w_X7_many c_board_askers c_board_told c_board_wishes u_above u_below u_board_places u_board_age) [some (.ref 0), some (.int a1), some (.int a2), none, none] [.int r1]
  refine G_if_eq 18 dX7_many_4 (by decide) (fun h3 => ?_) (fun h3 => ?_)
  · replace hf := ob_t h3 hf
    refine G_bipush (-2 : Int32) dX7_many_18 (by decide) ?_
    obtain rfl := os hf
    exact G_ireturn dX7_many_20 rfl
  · replace hf := ob_f h3 hf
    refine G_iload_n dX7_many_7 rfl rfl ?_
    refine G_iconst 1 dX7_many_8 (by decide) ?_
    refine G_icmp_lt 18 dX7_many_9 (by decide) (fun h4 => ?_) (fun h4 => ?_)
    · replace hf := ob_t h4 hf
      refine G_bipush (-2 : Int32) dX7_many_18 (by decide) ?_
      obtain rfl := os hf
      exact G_ireturn dX7_many_20 rfl
    · replace hf := ob_f h4 hf
      refine G_iload_n dX7_many_12 rfl rfl ?_
      refine G_bipush 7 dX7_many_13 (by decide) ?_
      refine G_icmp_le 21 dX7_many_15 (by decide) (fun h5 => ?_) (fun h5 => ?_)
      · replace hf := ob_t h5 hf
        refine G_iconst 0 dX7_many_21 (by decide) ?_
        refine G_istore_n dX7_many_22 rfl (ltb rfl) ?_
        change GG _ _ _ _ _ _ _ _ _ _ [some (.ref 0), some (.int a1), some (.int a2), some (.int 0), none] _
        refine G_iconst 0 dX7_many_23 (by decide) ?_
        refine G_istore dX7_many_24 (ltb rfl) ?_
        change GG _ _ _ _ _ _ _ _ _ _ [some (.ref 0), some (.int a1), some (.int a2), some (.int 0), some (.int 0)] _
        exact g_X7_many_26 N hf
      · replace hf := ob_f h5 hf
        refine G_bipush (-2 : Int32) dX7_many_18 (by decide) ?_
        obtain rfl := os hf
        exact G_ireturn dX7_many_20 rfl
set_option maxRecDepth 20000 in
theorem dX7_countRisers_0 : decode cX7_countRisers 0 = .ok (.iconst 0, 1) := by decide +kernel
set_option maxRecDepth 20000 in
theorem dX7_countRisers_1 : decode cX7_countRisers 1 = .ok (.istore_n 2, 1) := by decide +kernel
set_option maxRecDepth 20000 in
theorem dX7_countRisers_2 : decode cX7_countRisers 2 = .ok (.iconst 0, 1) := by decide +kernel
set_option maxRecDepth 20000 in
theorem dX7_countRisers_3 : decode cX7_countRisers 3 = .ok (.istore_n 3, 1) := by decide +kernel
set_option maxRecDepth 20000 in
theorem dX7_countRisers_4 : decode cX7_countRisers 4 = .ok (.iload_n 3, 1) := by decide +kernel
set_option maxRecDepth 20000 in
theorem dX7_countRisers_5 : decode cX7_countRisers 5 = .ok (.aload_n 0, 1) := by decide +kernel
set_option maxRecDepth 20000 in
theorem dX7_countRisers_6 : decode cX7_countRisers 6 = .ok (.getfield 10, 3) := by decide +kernel
set_option maxRecDepth 20000 in
theorem dX7_countRisers_9 : decode cX7_countRisers 9 = .ok (.getfield 79, 3) := by decide +kernel
set_option maxRecDepth 20000 in
theorem dX7_countRisers_12 : decode cX7_countRisers 12 = .ok (.if_icmp .ge 38, 3) := by decide +kernel
set_option maxRecDepth 20000 in
theorem dX7_countRisers_15 : decode cX7_countRisers 15 = .ok (.aload_n 0, 1) := by decide +kernel
set_option maxRecDepth 20000 in
theorem dX7_countRisers_16 : decode cX7_countRisers 16 = .ok (.getfield 10, 3) := by decide +kernel
set_option maxRecDepth 20000 in
theorem dX7_countRisers_19 : decode cX7_countRisers 19 = .ok (.iload_n 3, 1) := by decide +kernel
set_option maxRecDepth 20000 in
theorem dX7_countRisers_20 : decode cX7_countRisers 20 = .ok (.aload_n 0, 1) := by decide +kernel
set_option maxRecDepth 20000 in
theorem dX7_countRisers_21 : decode cX7_countRisers 21 = .ok (.getfield 68, 3) := by decide +kernel
set_option maxRecDepth 20000 in
theorem dX7_countRisers_24 : decode cX7_countRisers 24 = .ok (.iload_n 3, 1) := by decide +kernel
set_option maxRecDepth 20000 in
theorem dX7_countRisers_25 : decode cX7_countRisers 25 = .ok (.iaload, 1) := by decide +kernel
set_option maxRecDepth 20000 in
theorem dX7_countRisers_26 : decode cX7_countRisers 26 = .ok (.invokevirtual 118, 3) := by decide +kernel
set_option maxRecDepth 20000 in
theorem dX7_countRisers_29 : decode cX7_countRisers 29 = .ok (.aload_n 0, 1) := by decide +kernel
set_option maxRecDepth 20000 in
theorem dX7_countRisers_30 : decode cX7_countRisers 30 = .ok (.getfield 10, 3) := by decide +kernel
set_option maxRecDepth 20000 in
theorem dX7_countRisers_33 : decode cX7_countRisers 33 = .ok (.iload_n 1, 1) := by decide +kernel
set_option maxRecDepth 20000 in
theorem dX7_countRisers_34 : decode cX7_countRisers 34 = .ok (.iload_n 3, 1) := by decide +kernel
set_option maxRecDepth 20000 in
theorem dX7_countRisers_35 : decode cX7_countRisers 35 = .ok (.invokevirtual 163, 3) := by decide +kernel
set_option maxRecDepth 20000 in
theorem dX7_countRisers_38 : decode cX7_countRisers 38 = .ok (.if_icmp .ge 6, 3) := by decide +kernel
set_option maxRecDepth 20000 in
theorem dX7_countRisers_41 : decode cX7_countRisers 41 = .ok (.iinc 2 1, 3) := by decide +kernel
set_option maxRecDepth 20000 in
theorem dX7_countRisers_44 : decode cX7_countRisers 44 = .ok (.iinc 3 1, 3) := by decide +kernel
set_option maxRecDepth 20000 in
theorem dX7_countRisers_47 : decode cX7_countRisers 47 = .ok (.goto (-43), 3) := by decide +kernel
set_option maxRecDepth 20000 in
theorem dX7_countRisers_50 : decode cX7_countRisers 50 = .ok (.iload_n 2, 1) := by decide +kernel
set_option maxRecDepth 20000 in
theorem dX7_countRisers_51 : decode cX7_countRisers 51 = .ok (.ireturn, 1) := by decide +kernel
def f_X7_countRisers_4 (N : Nat) (c_board_askers : Int32) (c_row : Nat → Int32) (c_board_told : Nat → Int32) (c_board_wishes : Nat → Int32) : Nat → Int32 → Int32 → Int32 → Option (Int32)
  | 0, _, _, _ => none
  | n + 1, v1, v2, v3 =>
    (if c_board_askers ≤ v3 then
      some v2
    else
      (rdI 8 c_row v3).bind fun t2 =>
      (f_X0_worthOf N c_board_wishes v3 t2).bind fun r3 =>
      (f_X0_toldWorth N c_board_told c_board_wishes v1 v3).bind fun r5 =>
      (if r5 ≤ r3 then
        f_X7_countRisers_4 N c_board_askers c_row c_board_told c_board_wishes n v1 v2 (v3 + 1)
      else
        f_X7_countRisers_4 N c_board_askers c_row c_board_told c_board_wishes n v1 (v2 + 1) (v3 + 1)))
set_option maxHeartbeats 4000000 in
set_option maxRecDepth 100000 in
theorem g_X7_countRisers_4 {κ : KC} {ω : KW} {A : Nat → Prop} {ad : Nat → Nat} {u_above : Int64} {u_below : Int64} {u_board_places : Int32} {u_board_age : Int32} {N : Nat} {c_board_askers : Int32} {c_row : Nat → Int32} {c_board_told : Nat → Int32} {c_board_wishes : Nat → Int32}  {res : Int32} : ∀ (n : Nat) {v1 : Int32} {v2 : Int32} {v3 : Int32}, f_X7_countRisers_4 N c_board_askers c_row c_board_told c_board_wishes n v1 v2 v3 = some res → GG mu_X7_countRisers κ ω A (QR κ ω A ad (some (.int res)) (w_X7_countRisers c_board_askers c_row c_board_told c_board_wishes u_above u_below u_board_places u_board_age)) ad 0 0 4 (w_X7_countRisers c_board_askers c_row c_board_told c_board_wishes u_above u_below u_board_places u_board_age) [some (.ref 0), some (.int v1), some (.int v2), some (.int v3)] [] := by
  intro n
  induction n with
  | zero => intro v1 v2 v3 hf; exact ob_0 hf
  | succ n ih =>
    intro v1 v2 v3 hf
    refine G_iload_n dX7_countRisers_4 rfl rfl ?_
    refine G_aload_n dX7_countRisers_5 rfl rfl ?_
    refine G_get (v := .ref 1) F_X7_10 dX7_countRisers_6 rfl rfl ?_
    refine G_get (v := .int c_board_askers) F_X7_79 dX7_countRisers_9 rfl rfl ?_
    refine G_icmp_ge 50 dX7_countRisers_12 (by decide) (fun h1 => ?_) (fun h1 => ?_)
    · replace hf := ob_t h1 hf
      refine G_iload_n dX7_countRisers_50 rfl rfl ?_
      obtain rfl := os hf
      exact G_ireturn dX7_countRisers_51 rfl
    · replace hf := ob_f h1 hf
      refine G_aload_n dX7_countRisers_15 rfl rfl ?_
      refine G_get (v := .ref 1) F_X7_10 dX7_countRisers_16 rfl rfl ?_
      refine G_iload_n dX7_countRisers_19 rfl rfl ?_
      refine G_aload_n dX7_countRisers_20 rfl rfl ?_
      refine G_get (v := .ref 2) F_X7_68 dX7_countRisers_21 rfl rfl ?_
      refine G_iload_n dX7_countRisers_24 rfl rfl ?_
      obtain ⟨t2, ht2, hf⟩ := ob hf
      refine G_iald dX7_countRisers_25 rfl ht2 ?_
      obtain ⟨r3, hc4, hf⟩ := ob hf
      refine G_callV (μ2 := mu_X0_worthOf) (As := [.int v3, .int t2]) (w2 := (w_X7_countRisers c_board_askers c_row c_board_told c_board_wishes u_above u_below u_board_places u_board_age)) (wc := (w_X0_worthOf c_board_wishes c_board_askers u_board_places u_board_age)) (wc2 := (w_X0_worthOf c_board_wishes c_board_askers u_board_places u_board_age)) (rest := []) (rv := [.int r3]) [1, 4] [1008, 1009, 3] [0, 2, 3] [0, 3, 1, 2, 4] (c_X0_worthOf hc4) cw_X0_worthOf m_X7_118 dX7_countRisers_26 rfl ⟨leb rfl, leb rfl⟩ ⟨rfl, rfl⟩ rfl ⟨_, rfl, rfl⟩ (Fit.mk rfl rfl rfl) rfl (leb rfl) (ROsub.nil rfl rfl) rfl ?_
      change GG _ _ _ _ _ _ _ _ _ (w_X7_countRisers c_board_askers c_row c_board_told c_board_wishes u_above u_below u_board_places u_board_age) [some (.ref 0), some (.int v1), some (.int v2), some (.int v3)] [.int r3]
      refine G_aload_n dX7_countRisers_29 rfl rfl ?_
      refine G_get (v := .ref 1) F_X7_10 dX7_countRisers_30 rfl rfl ?_
      refine G_iload_n dX7_countRisers_33 rfl rfl ?_
      refine G_iload_n dX7_countRisers_34 rfl rfl ?_
      obtain ⟨r5, hc6, hf⟩ := ob hf
      refine G_callV (μ2 := mu_X0_toldWorth) (As := [.int v1, .int v3]) (w2 := (w_X7_countRisers c_board_askers c_row c_board_told c_board_wishes u_above u_below u_board_places u_board_age)) (wc := (w_X0_toldWorth c_board_told c_board_wishes c_board_askers u_board_places u_board_age)) (wc2 := (w_X0_toldWorth c_board_told c_board_wishes c_board_askers u_board_places u_board_age)) (rest := [.int r3]) (rv := [.int r5]) [1, 3, 4] [1008, 1009] [0, 2] [0, 2, 1, 3, 4] (c_X0_toldWorth hc6) cw_X0_toldWorth m_X7_163 dX7_countRisers_35 rfl ⟨leb rfl, leb rfl⟩ ⟨rfl, rfl⟩ rfl ⟨_, rfl, rfl⟩ (Fit.mk rfl rfl rfl) rfl (leb rfl) (ROsub.nil rfl rfl) rfl ?_
      change GG _ _ _ _ _ _ _ _ _ (w_X7_countRisers c_board_askers c_row c_board_told c_board_wishes u_above u_below u_board_places u_board_age) [some (.ref 0), some (.int v1), some (.int v2), some (.int v3)] [.int r5, .int r3]
      refine G_icmp_ge 44 dX7_countRisers_38 (by decide) (fun h7 => ?_) (fun h7 => ?_)
      · replace hf := ob_t h7 hf
        refine G_iinc 1 dX7_countRisers_44 (by decide) rfl (ltb rfl) ?_
        change GG _ _ _ _ _ _ _ _ _ _ [some (.ref 0), some (.int v1), some (.int v2), some (.int (v3 + 1))] _
        refine G_goto 4 dX7_countRisers_47 (by decide) ?_
        exact ih hf
      · replace hf := ob_f h7 hf
        refine G_iinc 1 dX7_countRisers_41 (by decide) rfl (ltb rfl) ?_
        change GG _ _ _ _ _ _ _ _ _ _ [some (.ref 0), some (.int v1), some (.int (v2 + 1)), some (.int v3)] _
        refine G_iinc 1 dX7_countRisers_44 (by decide) rfl (ltb rfl) ?_
        change GG _ _ _ _ _ _ _ _ _ _ [some (.ref 0), some (.int v1), some (.int (v2 + 1)), some (.int (v3 + 1))] _
        refine G_goto 4 dX7_countRisers_47 (by decide) ?_
        exact ih hf
def f_X7_countRisers (N : Nat) (c_board_askers : Int32) (c_row : Nat → Int32) (c_board_told : Nat → Int32) (c_board_wishes : Nat → Int32) (a1 : Int32) : Option (Int32) :=
  f_X7_countRisers_4 N c_board_askers c_row c_board_told c_board_wishes N a1 0 0
set_option maxHeartbeats 4000000 in
set_option maxRecDepth 100000 in
theorem c_X7_countRisers {N : Nat} {c_board_askers : Int32} {c_row : Nat → Int32} {c_board_told : Nat → Int32} {c_board_wishes : Nat → Int32}  {u_above : Int64} {u_below : Int64} {u_board_places : Int32} {u_board_age : Int32} {a1 : Int32} {res : Int32} (hf : f_X7_countRisers N c_board_askers c_row c_board_told c_board_wishes a1 = some res) : Con mu_X7_countRisers [.ref 0, .int a1] (w_X7_countRisers c_board_askers c_row c_board_told c_board_wishes u_above u_below u_board_places u_board_age) (some (.int res)) (w_X7_countRisers c_board_askers c_row c_board_told c_board_wishes u_above u_below u_board_places u_board_age) := by
  refine Con.mk (show plainName RX7 = true by decide +kernel) (leb rfl) (fun κ ω A ad => ?_)
  change GG mu_X7_countRisers κ ω A (QR κ ω A ad (some (.int res)) (w_X7_countRisers c_board_askers c_row c_board_told c_board_wishes u_above u_below u_board_places u_board_age)) ad 0 0 0 (w_X7_countRisers c_board_askers c_row c_board_told c_board_wishes u_above u_below u_board_places u_board_age) [some (.ref 0), some (.int a1), none, none] []
  refine G_iconst 0 dX7_countRisers_0 (by decide) ?_
  refine G_istore_n dX7_countRisers_1 rfl (ltb rfl) ?_
  change GG _ _ _ _ _ _ _ _ _ _ [some (.ref 0), some (.int a1), some (.int 0), none] _
  refine G_iconst 0 dX7_countRisers_2 (by decide) ?_
  refine G_istore_n dX7_countRisers_3 rfl (ltb rfl) ?_
  change GG _ _ _ _ _ _ _ _ _ _ [some (.ref 0), some (.int a1), some (.int 0), some (.int 0)] _
  exact g_X7_countRisers_4 N hf
