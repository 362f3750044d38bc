/-! printed by wip/gen: WishPlaces, part 1 -/
theorem F_X7_25 : FLD RX7 25 7 2 (.object "WishPlaces$Search") true := ⟨RX7, TX7, 12, tyX7, rfl, by decide, uX7, all_of 250 (by decide +kernel) (by decide +kernel), tyX7_ok, rfl, nmX7, rfl⟩
theorem F_X7_36 : FLD RX7 36 7 4 (.object "WishPlaces$Steady") true := ⟨RX7, TX7, 12, tyX7, rfl, by decide, uX7, all_of 252 (by decide +kernel) (by decide +kernel), tyX7_ok, rfl, nmX7, rfl⟩
theorem F_X7_50 : FLD RX7 50 7 6 (.object "WishPlaces$Ring") true := ⟨RX7, TX7, 12, tyX7, rfl, by decide, uX7, all_of 254 (by decide +kernel) (by decide +kernel), tyX7_ok, rfl, nmX7, rfl⟩
theorem F_X7_57 : FLD RX7 57 7 7 (.object "WishPlaces$Lots") true := ⟨RX7, TX7, 12, tyX7, rfl, by decide, uX7, all_of 255 (by decide +kernel) (by decide +kernel), tyX7_ok, rfl, nmX7, rfl⟩
theorem F_X7_64 : FLD RX7 64 7 8 (.object "WishPlaces$Eating") true := ⟨RX7, TX7, 12, tyX7, rfl, by decide, uX7, all_of 256 (by decide +kernel) (by decide +kernel), tyX7_ok, rfl, nmX7, rfl⟩
theorem F_X7_72 : FLD RX7 72 7 10 .long false := ⟨RX7, TX7, 12, tyX7, rfl, by decide, uX7, all_of 258 (by decide +kernel) (by decide +kernel), tyX7_ok, rfl, nmX7, rfl⟩
theorem F_X7_76 : FLD RX7 76 7 11 .long false := ⟨RX7, TX7, 12, tyX7, rfl, by decide, uX7, all_of 259 (by decide +kernel) (by decide +kernel), tyX7_ok, rfl, nmX7, rfl⟩
theorem F_X7_204 : FLD RX7 204 5 1 .int false := ⟨RX5, TX5, 4, tyX5, rfl, by decide, uX5, all_of 127 (by decide +kernel) (by decide +kernel), tyX5_ok, rfl, nmX5, rfl⟩
theorem F_X7_219 : FLD RX7 219 6 2 (.array .int) true := ⟨RX6, TX6, 6, tyX6, rfl, by decide, uX6, all_of 149 (by decide +kernel) (by decide +kernel), tyX6_ok, rfl, nmX6, rfl⟩
theorem F_X7_225 : FLD RX7 225 3 2 .int false := ⟨RX3, TX3, 4, tyX3, rfl, by decide, uX3, all_of 176 (by decide +kernel) (by decide +kernel), tyX3_ok, rfl, nmX3, rfl⟩
theorem F_X7_228 : FLD RX7 228 3 1 (.array .int) true := ⟨RX3, TX3, 4, tyX3, rfl, by decide, uX3, all_of 174 (by decide +kernel) (by decide +kernel), tyX3_ok, rfl, nmX3, rfl⟩
theorem F_X7_240 : FLD RX7 240 1 0 .long false := ⟨RX1, TX1, 7, tyX1, rfl, by decide, uX1, all_of 226 (by decide +kernel) (by decide +kernel), tyX1_ok, rfl, nmX1, rfl⟩
theorem m_X7_166 : Cond.methodLink RX7 166 yX7_countRisers ∈ ALLW := all_of 541 (by decide +kernel) (by decide +kernel)
theorem m_X7_169 : Cond.methodLink RX7 169 yX7_countFallers ∈ ALLW := all_of 545 (by decide +kernel) (by decide +kernel)
theorem m_X7_175 : Cond.methodLink RX7 175 yX4_bestGain ∈ ALLW := all_of 553 (by decide +kernel) (by decide +kernel)
theorem m_X7_178 : Cond.methodLink RX7 178 yX7_canAnyRise ∈ ALLW := all_of 565 (by decide +kernel) (by decide +kernel)
theorem m_X7_181 : Cond.methodLink RX7 181 yX7_tellFraction ∈ ALLW := all_of 573 (by decide +kernel) (by decide +kernel)
theorem m_X7_185 : Cond.methodLink RX7 185 yX7_better ∈ ALLW := all_of 577 (by decide +kernel) (by decide +kernel)
theorem m_X7_188 : Cond.methodLink RX7 188 yX7_findFactor ∈ ALLW := all_of 581 (by decide +kernel) (by decide +kernel)
theorem m_X7_194 : Cond.methodLink RX7 194 yX5_learn ∈ ALLW := all_of 595 (by decide +kernel) (by decide +kernel)
theorem m_X7_197 : Cond.methodLink RX7 197 yX5_fillGains ∈ ALLW := all_of 609 (by decide +kernel) (by decide +kernel)
theorem m_X7_207 : Cond.methodLink RX7 207 yX7_standing ∈ ALLW := all_of 628 (by decide +kernel) (by decide +kernel)
theorem m_X7_210 : Cond.methodLink RX7 210 yX7_isOrder ∈ ALLW := all_of 637 (by decide +kernel) (by decide +kernel)
theorem m_X7_213 : Cond.methodLink RX7 213 yX7_fillTurn ∈ ALLW := all_of 641 (by decide +kernel) (by decide +kernel)
theorem m_X7_222 : Cond.methodLink RX7 222 yX3_find ∈ ALLW := all_of 653 (by decide +kernel) (by decide +kernel)
theorem m_X7_231 : Cond.methodLink RX7 231 yX2_ordersFor ∈ ALLW := all_of 675 (by decide +kernel) (by decide +kernel)
theorem m_X7_234 : Cond.methodLink RX7 234 yX1_run ∈ ALLW := all_of 701 (by decide +kernel) (by decide +kernel)
theorem m_X7_236 : Cond.methodLink RX7 236 yX1_eatenBy ∈ ALLW := all_of 726 (by decide +kernel) (by decide +kernel)
theorem m_X7_243 : Cond.methodLink RX7 243 yX1_eatenUpTo ∈ ALLW := all_of 734 (by decide +kernel) (by decide +kernel)
theorem m_X7_247 : Cond.methodLink RX7 247 yX0_allSeats ∈ ALLW := all_of 743 (by decide +kernel) (by decide +kernel)
theorem m_X7_250 : Cond.methodLink RX7 250 yX0_allWishes ∈ ALLW := all_of 747 (by decide +kernel) (by decide +kernel)
theorem m_X7_299 : Cond.methodLink RX7 299 yX0_firstWorth ∈ ALLW := all_of 569 (by decide +kernel) (by decide +kernel)
theorem k_X7_191 : Cond.constantLong RX7 191 (-1 : Int64) ∈ ALLW := all_of 589 (by decide +kernel) (by decide +kernel)
abbrev mu_X7_countFallers : KM := (yX7_countFallers, cX7_countFallers, 4, (some .int), { frames := 2, cells := 0, slots := 0, locals := 45 }, [], [])
def w_X7_countFallers (c_board_askers : Int32) (c_row : Nat → Int32) (c_board_told : Nat → Int32) (c_board_wishes : Nat → Int32) (u_above : Int64) (u_below : Int64) (u_board_places : Int32) (u_board_age : Int32) : List mE := [.inr (7, [.ref 1, .ref 1000, .ref 1001, .ref 1002, .ref 1003, .ref 1004, .ref 1005, .ref 1006, .ref 1007, .ref 2, .long u_above, .long u_below]), .inr (0, [.int c_board_askers, .int u_board_places, .int u_board_age, .ref 1008, .ref 4, .ref 1009, .ref 3]), .inl (0, 8, .inl c_row), .inl (0, 32, .inl c_board_told), .inl (0, 48, .inl c_board_wishes)]
theorem cw_X7_countFallers : CWv mu_X7_countFallers 1 := ⟨⟨all_of 548 (by decide +kernel) (by decide +kernel), all_of 1 (by decide +kernel) (by decide +kernel), by decide +kernel, by decide +kernel, by decide +kernel⟩, all_of 547 (by decide +kernel) (by decide +kernel), all_pr 26 (by decide +kernel) (by decide +kernel)⟩
abbrev mu_X7_votes : KM := (yX7_votes, cX7_votes, 3, (some .int), { frames := 3, cells := 0, slots := 0, locals := 68 }, [], [])
def w_X7_votes (c_board_askers : Int32) (c_row : Nat → Int32) (c_board_told : Nat → Int32) (c_board_wishes : Nat → Int32) (u_above : Int64) (u_below : Int64) (u_board_places : Int32) (u_board_age : Int32) : List mE := [.inr (7, [.ref 1, .ref 1000, .ref 1001, .ref 1002, .ref 1003, .ref 1004, .ref 1005, .ref 1006, .ref 1007, .ref 2, .long u_above, .long u_below]), .inr (0, [.int c_board_askers, .int u_board_places, .int u_board_age, .ref 1008, .ref 4, .ref 1009, .ref 3]), .inl (0, 8, .inl c_row), .inl (0, 32, .inl c_board_told), .inl (0, 48, .inl c_board_wishes)]
theorem cw_X7_votes : CWv mu_X7_votes 2 := ⟨⟨all_of 540 (by decide +kernel) (by decide +kernel), all_of 1 (by decide +kernel) (by decide +kernel), by decide +kernel, by decide +kernel, by decide +kernel⟩, all_of 538 (by decide +kernel) (by decide +kernel), all_of 539 (by decide +kernel) (by decide +kernel)⟩
abbrev mu_X7_margin : KM := (yX7_margin, cX7_margin, 2, (some .int), { frames := 5, cells := 0, slots := 0, locals := 120 }, [], [])
def w_X7_margin (c_aimed_askers : Int32) (c_aimed_places : Int32) (c_aimed_seatBits : Int32) (c_aimed_entries : Int32) (c_board_askers : Int32) (c_board_places : Int32) (c_aimed_best : Nat → Int32) (c_aimed_clipAll : Nat → Int32) (c_aimed_clipToOne : Nat → Int32) (c_aimed_clipToTwo : Nat → Int32) (c_aimed_firstOf : Nat → Int32) (c_aimed_gains : Nat → Int32) (c_aimed_left : Nat → Int32) (c_aimed_next : Nat → Int32) (c_aimed_solvedGains : Nat → Int32) (c_aimed_ways : Nat → Int32) (c_all_slots : Nat → Int32) (c_board_seats : Nat → Int32) (c_board_told : Nat → Int32) (c_board_wishes : Nat → Int32) (u_above : Int64) (u_below : Int64) (u_board_age : Int32) : List mE := [.inr (7, [.ref 2, .ref 1000, .ref 1001, .ref 1, .ref 1002, .ref 1003, .ref 1004, .ref 1005, .ref 1006, .ref 1007, .long u_above, .long u_below]), .inr (4, [.ref 2, .ref 8, .ref 11, .int c_aimed_askers, .int c_aimed_places, .int c_aimed_seatBits, .ref 9, .ref 3, .ref 12, .ref 10, .ref 7, .int c_aimed_entries, .ref 13, .ref 4, .ref 5, .ref 6]), .inr (0, [.int c_board_askers, .int c_board_places, .int u_board_age, .ref 14, .ref 16, .ref 1008, .ref 15]), .inl (0, 1056, .inl c_aimed_best), .inl (0, 9, .inl c_aimed_clipAll), .inl (0, 9, .inl c_aimed_clipToOne), .inl (0, 9, .inl c_aimed_clipToTwo), .inl (0, 10, .inl c_aimed_firstOf), .inl (0, 56, .inl c_aimed_gains), .inl (0, 1056, .inl c_aimed_left), .inl (0, 7392, .inl c_aimed_next), .inl (0, 56, .inl c_aimed_solvedGains), .inl (0, 1056, .inl c_aimed_ways), .inl (0, 4096, .inl c_all_slots), .inl (0, 6, .inl c_board_seats), .inl (0, 32, .inl c_board_told), .inl (0, 48, .inl c_board_wishes)]
theorem cw_X7_margin : CWv mu_X7_margin 1 := ⟨⟨all_of 552 (by decide +kernel) (by decide +kernel), all_of 1 (by decide +kernel) (by decide +kernel), by decide +kernel, by decide +kernel, by decide +kernel⟩, all_of 550 (by decide +kernel) (by decide +kernel), all_of 551 (by decide +kernel) (by decide +kernel)⟩
abbrev mu_X7_beater : KM := (yX7_beater, cX7_beater, 3, (some .int), { frames := 5, cells := 0, slots := 0, locals := 120 }, [], [])
def w_X7_beater (c_aimed_askers : Int32) (c_aimed_places : Int32) (c_aimed_seatBits : Int32) (c_aimed_entries : Int32) (c_board_askers : Int32) (c_board_places : Int32) (c_row : Nat → Int32) (c_aimed_best : Nat → Int32) (c_aimed_clipAll : Nat → Int32) (c_aimed_clipToOne : Nat → Int32) (c_aimed_clipToTwo : Nat → Int32) (c_aimed_firstOf : Nat → Int32) (c_aimed_gains : Nat → Int32) (c_aimed_left : Nat → Int32) (c_aimed_next : Nat → Int32) (c_aimed_solvedGains : Nat → Int32) (c_aimed_ways : Nat → Int32) (c_all_slots : Nat → Int32) (c_board_seats : Nat → Int32) (c_board_told : Nat → Int32) (c_board_wishes : Nat → Int32) (u_above : Int64) (u_below : Int64) (u_board_age : Int32) : List mE := [.inr (7, [.ref 2, .ref 1000, .ref 1001, .ref 1, .ref 1002, .ref 1003, .ref 1004, .ref 1005, .ref 1006, .ref 3, .long u_above, .long u_below]), .inr (4, [.ref 2, .ref 9, .ref 12, .int c_aimed_askers, .int c_aimed_places, .int c_aimed_seatBits, .ref 10, .ref 4, .ref 13, .ref 11, .ref 8, .int c_aimed_entries, .ref 14, .ref 5, .ref 6, .ref 7]), .inr (0, [.int c_board_askers, .int c_board_places, .int u_board_age, .ref 15, .ref 17, .ref 1007, .ref 16]), .inl (0, 8, .inl c_row), .inl (0, 1056, .inl c_aimed_best), .inl (0, 9, .inl c_aimed_clipAll), .inl (0, 9, .inl c_aimed_clipToOne), .inl (0, 9, .inl c_aimed_clipToTwo), .inl (0, 10, .inl c_aimed_firstOf), .inl (0, 56, .inl c_aimed_gains), .inl (0, 1056, .inl c_aimed_left), .inl (0, 7392, .inl c_aimed_next), .inl (0, 56, .inl c_aimed_solvedGains), .inl (0, 1056, .inl c_aimed_ways), .inl (0, 4096, .inl c_all_slots), .inl (0, 6, .inl c_board_seats), .inl (0, 32, .inl c_board_told), .inl (0, 48, .inl c_board_wishes)]
theorem cw_X7_beater : CWv mu_X7_beater 2 := ⟨⟨all_of 560 (by decide +kernel) (by decide +kernel), all_of 1 (by decide +kernel) (by decide +kernel), by decide +kernel, by decide +kernel, by decide +kernel⟩, all_of 558 (by decide +kernel) (by decide +kernel), all_of 559 (by decide +kernel) (by decide +kernel)⟩
abbrev mu_X7_canAnyRise : KM := (yX7_canAnyRise, cX7_canAnyRise, 3, (some .boolean), { frames := 2, cells := 0, slots := 0, locals := 45 }, [], [])
def w_X7_canAnyRise (c_board_askers : Int32) (c_board_likes : Nat → Int32) (c_board_told : Nat → Int32) (c_board_wishes : Nat → Int32) (u_above : Int64) (u_below : Int64) (u_board_places : Int32) (u_board_age : Int32) : List mE := [.inr (7, [.ref 1, .ref 1000, .ref 1001, .ref 1002, .ref 1003, .ref 1004, .ref 1005, .ref 1006, .ref 1007, .ref 1008, .long u_above, .long u_below]), .inr (0, [.int c_board_askers, .int u_board_places, .int u_board_age, .ref 1009, .ref 4, .ref 2, .ref 3]), .inl (0, 48, .inl c_board_likes), .inl (0, 32, .inl c_board_told), .inl (0, 48, .inl c_board_wishes)]
theorem cw_X7_canAnyRise : CWv mu_X7_canAnyRise 1 := ⟨⟨all_of 568 (by decide +kernel) (by decide +kernel), all_of 1 (by decide +kernel) (by decide +kernel), by decide +kernel, by decide +kernel, by decide +kernel⟩, all_of 567 (by decide +kernel) (by decide +kernel), all_pr 27 (by decide +kernel) (by decide +kernel)⟩
abbrev mu_X7_tellFraction : KM := (yX7_tellFraction, cX7_tellFraction, 12, none, { frames := 0, cells := 0, slots := 0, locals := 0 }, [], [])
def w_X7_tellFraction (c_above : Int64) (c_below : Int64) : List mE := [.inr (7, [.ref 1000, .ref 1001, .ref 1002, .ref 1003, .ref 1004, .ref 1005, .ref 1006, .ref 1007, .ref 1008, .ref 1009, .long c_above, .long c_below])]
theorem cw_X7_tellFraction : CWv mu_X7_tellFraction 2 := ⟨⟨all_of 576 (by decide +kernel) (by decide +kernel), all_of 1 (by decide +kernel) (by decide +kernel), by decide +kernel, by decide +kernel, by decide +kernel⟩, all_of 575 (by decide +kernel) (by decide +kernel), all_pr 28 (by decide +kernel) (by decide +kernel)⟩
abbrev mu_X7_better : KM := (yX7_better, cX7_better, 2, (some .int), { frames := 5, cells := 0, slots := 0, locals := 120 }, [], [])
def w_X7_better (c_aimed_askers : Int32) (c_aimed_places : Int32) (c_aimed_seatBits : Int32) (c_aimed_entries : Int32) (c_board_askers : Int32) (c_board_places : Int32) (c_aimed_best : Nat → Int32) (c_aimed_clipAll : Nat → Int32) (c_aimed_clipToOne : Nat → Int32) (c_aimed_clipToTwo : Nat → Int32) (c_aimed_firstOf : Nat → Int32) (c_aimed_gains : Nat → Int32) (c_aimed_left : Nat → Int32) (c_aimed_next : Nat → Int32) (c_aimed_solvedGains : Nat → Int32) (c_aimed_ways : Nat → Int32) (c_all_slots : Nat → Int32) (c_board_seats : Nat → Int32) (c_board_told : Nat → Int32) (c_board_wishes : Nat → Int32) (u_above : Int64) (u_below : Int64) (u_board_age : Int32) : List mE := [.inr (7, [.ref 2, .ref 1000, .ref 1001, .ref 1, .ref 1002, .ref 1003, .ref 1004, .ref 1005, .ref 1006, .ref 1007, .long u_above, .long u_below]), .inr (4, [.ref 2, .ref 8, .ref 11, .int c_aimed_askers, .int c_aimed_places, .int c_aimed_seatBits, .ref 9, .ref 3, .ref 12, .ref 10, .ref 7, .int c_aimed_entries, .ref 13, .ref 4, .ref 5, .ref 6]), .inr (0, [.int c_board_askers, .int c_board_places, .int u_board_age, .ref 14, .ref 16, .ref 1008, .ref 15]), .inl (0, 1056, .inl c_aimed_best), .inl (0, 9, .inl c_aimed_clipAll), .inl (0, 9, .inl c_aimed_clipToOne), .inl (0, 9, .inl c_aimed_clipToTwo), .inl (0, 10, .inl c_aimed_firstOf), .inl (0, 56, .inl c_aimed_gains), .inl (0, 1056, .inl c_aimed_left), .inl (0, 7392, .inl c_aimed_next), .inl (0, 56, .inl c_aimed_solvedGains), .inl (0, 1056, .inl c_aimed_ways), .inl (0, 4096, .inl c_all_slots), .inl (0, 6, .inl c_board_seats), .inl (0, 32, .inl c_board_told), .inl (0, 48, .inl c_board_wishes)]
theorem cw_X7_better : CWv mu_X7_better 1 := ⟨⟨all_of 580 (by decide +kernel) (by decide +kernel), all_of 1 (by decide +kernel) (by decide +kernel), by decide +kernel, by decide +kernel, by decide +kernel⟩, all_of 578 (by decide +kernel) (by decide +kernel), all_of 579 (by decide +kernel) (by decide +kernel)⟩
abbrev mu_X7_findFactor : KM := (yX7_findFactor, cX7_findFactor, 5, none, { frames := 5, cells := 0, slots := 0, locals := 120 }, [], [])
def w_X7_findFactor (c_above : Int64) (c_below : Int64) (c_aimed_askers : Int32) (c_aimed_places : Int32) (c_aimed_seatBits : Int32) (c_aimed_entries : Int32) (c_board_askers : Int32) (c_board_places : Int32) (c_row : Nat → Int32) (c_aimed_best : Nat → Int32) (c_aimed_clipAll : Nat → Int32) (c_aimed_clipToOne : Nat → Int32) (c_aimed_clipToTwo : Nat → Int32) (c_aimed_firstOf : Nat → Int32) (c_aimed_gains : Nat → Int32) (c_aimed_left : Nat → Int32) (c_aimed_next : Nat → Int32) (c_aimed_solvedGains : Nat → Int32) (c_aimed_ways : Nat → Int32) (c_all_slots : Nat → Int32) (c_board_seats : Nat → Int32) (c_board_told : Nat → Int32) (c_board_wishes : Nat → Int32) (u_board_age : Int32) : List mE := [.inr (7, [.ref 2, .ref 1000, .ref 1001, .ref 1, .ref 1002, .ref 1003, .ref 1004, .ref 1005, .ref 1006, .ref 3, .long c_above, .long c_below]), .inr (4, [.ref 2, .ref 9, .ref 12, .int c_aimed_askers, .int c_aimed_places, .int c_aimed_seatBits, .ref 10, .ref 4, .ref 13, .ref 11, .ref 8, .int c_aimed_entries, .ref 14, .ref 5, .ref 6, .ref 7]), .inr (0, [.int c_board_askers, .int c_board_places, .int u_board_age, .ref 15, .ref 17, .ref 1007, .ref 16]), .inl (0, 8, .inl c_row), .inl (0, 1056, .inl c_aimed_best), .inl (0, 9, .inl c_aimed_clipAll), .inl (0, 9, .inl c_aimed_clipToOne), .inl (0, 9, .inl c_aimed_clipToTwo), .inl (0, 10, .inl c_aimed_firstOf), .inl (0, 56, .inl c_aimed_gains), .inl (0, 1056, .inl c_aimed_left), .inl (0, 7392, .inl c_aimed_next), .inl (0, 56, .inl c_aimed_solvedGains), .inl (0, 1056, .inl c_aimed_ways), .inl (0, 4096, .inl c_all_slots), .inl (0, 6, .inl c_board_seats), .inl (0, 32, .inl c_board_told), .inl (0, 48, .inl c_board_wishes)]
theorem cw_X7_findFactor : CWv mu_X7_findFactor 1 := ⟨⟨all_of 584 (by decide +kernel) (by decide +kernel), all_of 1 (by decide +kernel) (by decide +kernel), by decide +kernel, by decide +kernel, by decide +kernel⟩, all_of 583 (by decide +kernel) (by decide +kernel), all_pr 29 (by decide +kernel) (by decide +kernel)⟩
abbrev mu_X7_factor : KM := (yX7_factor, cX7_factor, 2, (some .int), { frames := 6, cells := 0, slots := 0, locals := 144 }, [], [])
def w_X7_factor (c_above : Int64) (c_below : Int64) (c_aimed_askers : Int32) (c_aimed_places : Int32) (c_aimed_seatBits : Int32) (c_aimed_entries : Int32) (c_board_askers : Int32) (c_board_places : Int32) (c_row : Nat → Int32) (c_aimed_best : Nat → Int32) (c_aimed_clipAll : Nat → Int32) (c_aimed_clipToOne : Nat → Int32) (c_aimed_clipToTwo : Nat → Int32) (c_aimed_firstOf : Nat → Int32) (c_aimed_gains : Nat → Int32) (c_aimed_left : Nat → Int32) (c_aimed_next : Nat → Int32) (c_aimed_solvedGains : Nat → Int32) (c_aimed_ways : Nat → Int32) (c_all_slots : Nat → Int32) (c_board_likes : Nat → Int32) (c_board_seats : Nat → Int32) (c_board_told : Nat → Int32) (c_board_wishes : Nat → Int32) (u_board_age : Int32) : List mE := [.inr (7, [.ref 2, .ref 1000, .ref 1001, .ref 1, .ref 1002, .ref 1003, .ref 1004, .ref 1005, .ref 1006, .ref 3, .long c_above, .long c_below]), .inr (4, [.ref 2, .ref 9, .ref 12, .int c_aimed_askers, .int c_aimed_places, .int c_aimed_seatBits, .ref 10, .ref 4, .ref 13, .ref 11, .ref 8, .int c_aimed_entries, .ref 14, .ref 5, .ref 6, .ref 7]), .inr (0, [.int c_board_askers, .int c_board_places, .int u_board_age, .ref 16, .ref 18, .ref 15, .ref 17]), .inl (0, 8, .inl c_row), .inl (0, 1056, .inl c_aimed_best), .inl (0, 9, .inl c_aimed_clipAll), .inl (0, 9, .inl c_aimed_clipToOne), .inl (0, 9, .inl c_aimed_clipToTwo), .inl (0, 10, .inl c_aimed_firstOf), .inl (0, 56, .inl c_aimed_gains), .inl (0, 1056, .inl c_aimed_left), .inl (0, 7392, .inl c_aimed_next), .inl (0, 56, .inl c_aimed_solvedGains), .inl (0, 1056, .inl c_aimed_ways), .inl (0, 4096, .inl c_all_slots), .inl (0, 48, .inl c_board_likes), .inl (0, 6, .inl c_board_seats), .inl (0, 32, .inl c_board_told), .inl (0, 48, .inl c_board_wishes)]
theorem cw_X7_factor : CWv mu_X7_factor 1 := ⟨⟨all_of 564 (by decide +kernel) (by decide +kernel), all_of 1 (by decide +kernel) (by decide +kernel), by decide +kernel, by decide +kernel, by decide +kernel⟩, all_of 562 (by decide +kernel) (by decide +kernel), all_of 563 (by decide +kernel) (by decide +kernel)⟩
abbrev mu_X7_part : KM := (yX7_part, cX7_part, 2, (some .long), { frames := 0, cells := 0, slots := 0, locals := 0 }, [], [])
def w_X7_part (c_above : Int64) (c_below : Int64) : List mE := [.inr (7, [.ref 1000, .ref 1001, .ref 1002, .ref 1003, .ref 1004, .ref 1005, .ref 1006, .ref 1007, .ref 1008, .ref 1009, .long c_above, .long c_below])]
theorem cw_X7_part : CWv mu_X7_part 1 := ⟨⟨all_of 588 (by decide +kernel) (by decide +kernel), all_of 1 (by decide +kernel) (by decide +kernel), by decide +kernel, by decide +kernel, by decide +kernel⟩, all_of 586 (by decide +kernel) (by decide +kernel), all_of 587 (by decide +kernel) (by decide +kernel)⟩
abbrev mu_X7_standing : KM := (yX7_standing, cX7_standing, 1, (some .long), { frames := 4, cells := 0, slots := 0, locals := 92 }, [], [])
def w_X7_standing (c_board_askers : Int32) (c_board_places : Int32) (c_steadiness_most : Int32) (c_steadiness_tight : Int32) (c_steady_askers : Int32) (c_steady_places : Int32) (c_steady_seatBits : Int32) (c_steady_entries : Int32) (c_all_slots : Nat → Int32) (c_board_likes : Nat → Int32) (c_board_seats : Nat → Int32) (c_board_wishes : Nat → Int32) (c_steadiness_firsts : Nat → Int32) (c_steady_best : Nat → Int32) (c_steady_clipAll : Nat → Int32) (c_steady_clipToOne : Nat → Int32) (c_steady_clipToTwo : Nat → Int32) (c_steady_firstOf : Nat → Int32) (c_steady_gains : Nat → Int32) (c_steady_left : Nat → Int32) (c_steady_next : Nat → Int32) (c_steady_solvedGains : Nat → Int32) (c_steady_ways : Nat → Int32) (u_above : Int64) (u_below : Int64) (u_board_age : Int32) : List mE := [.inr (7, [.ref 1, .ref 1000, .ref 3, .ref 1001, .ref 2, .ref 1002, .ref 1003, .ref 1004, .ref 1005, .ref 1006, .long u_above, .long u_below]), .inr (0, [.int c_board_askers, .int c_board_places, .int u_board_age, .ref 6, .ref 7, .ref 5, .ref 1007]), .inr (5, [.ref 1, .int c_steadiness_most, .ref 8, .int c_steadiness_tight]), .inr (4, [.ref 1, .ref 14, .ref 17, .int c_steady_askers, .int c_steady_places, .int c_steady_seatBits, .ref 15, .ref 9, .ref 18, .ref 16, .ref 13, .int c_steady_entries, .ref 4, .ref 10, .ref 11, .ref 12]), .inl (0, 4096, .inl c_all_slots), .inl (0, 48, .inl c_board_likes), .inl (0, 6, .inl c_board_seats), .inl (0, 48, .inl c_board_wishes), .inl (0, 8, .inl c_steadiness_firsts), .inl (0, 1056, .inl c_steady_best), .inl (0, 9, .inl c_steady_clipAll), .inl (0, 9, .inl c_steady_clipToOne), .inl (0, 9, .inl c_steady_clipToTwo), .inl (0, 10, .inl c_steady_firstOf), .inl (0, 56, .inl c_steady_gains), .inl (0, 1056, .inl c_steady_left), .inl (0, 7392, .inl c_steady_next), .inl (0, 56, .inl c_steady_solvedGains), .inl (0, 1056, .inl c_steady_ways)]
theorem cw_X7_standing : CWv mu_X7_standing 0 := ⟨⟨all_of 594 (by decide +kernel) (by decide +kernel), all_of 1 (by decide +kernel) (by decide +kernel), by decide +kernel, by decide +kernel, by decide +kernel⟩, all_of 592 (by decide +kernel) (by decide +kernel), all_of 593 (by decide +kernel) (by decide +kernel)⟩
abbrev mu_X7_standingAt : KM := (yX7_standingAt, cX7_standingAt, 4, (some .int), { frames := 5, cells := 0, slots := 0, locals := 112 }, [], [])
def w_X7_standingAt (c_board_askers : Int32) (c_board_places : Int32) (c_row : Nat → Int32) (c_steadiness_most : Int32) (c_steadiness_tight : Int32) (c_steady_askers : Int32) (c_steady_places : Int32) (c_steady_seatBits : Int32) (c_steady_entries : Int32) (c_all_slots : Nat → Int32) (c_board_likes : Nat → Int32) (c_board_seats : Nat → Int32) (c_board_wishes : Nat → Int32) (c_steadiness_firsts : Nat → Int32) (c_steady_best : Nat → Int32) (c_steady_clipAll : Nat → Int32) (c_steady_clipToOne : Nat → Int32) (c_steady_clipToTwo : Nat → Int32) (c_steady_firstOf : Nat → Int32) (c_steady_gains : Nat → Int32) (c_steady_left : Nat → Int32) (c_steady_next : Nat → Int32) (c_steady_solvedGains : Nat → Int32) (c_steady_ways : Nat → Int32) (u_above : Int64) (u_below : Int64) (u_board_age : Int32) : List mE := [.inr (7, [.ref 1, .ref 1000, .ref 4, .ref 1001, .ref 3, .ref 1002, .ref 1003, .ref 1004, .ref 1005, .ref 2, .long u_above, .long u_below]), .inr (0, [.int c_board_askers, .int c_board_places, .int u_board_age, .ref 7, .ref 8, .ref 6, .ref 1006]), .inl (0, 8, .inl c_row), .inr (5, [.ref 1, .int c_steadiness_most, .ref 9, .int c_steadiness_tight]), .inr (4, [.ref 1, .ref 15, .ref 18, .int c_steady_askers, .int c_steady_places, .int c_steady_seatBits, .ref 16, .ref 10, .ref 19, .ref 17, .ref 14, .int c_steady_entries, .ref 5, .ref 11, .ref 12, .ref 13]), .inl (0, 4096, .inl c_all_slots), .inl (0, 48, .inl c_board_likes), .inl (0, 6, .inl c_board_seats), .inl (0, 48, .inl c_board_wishes), .inl (0, 8, .inl c_steadiness_firsts), .inl (0, 1056, .inl c_steady_best), .inl (0, 9, .inl c_steady_clipAll), .inl (0, 9, .inl c_steady_clipToOne), .inl (0, 9, .inl c_steady_clipToTwo), .inl (0, 10, .inl c_steady_firstOf), .inl (0, 56, .inl c_steady_gains), .inl (0, 1056, .inl c_steady_left), .inl (0, 7392, .inl c_steady_next), .inl (0, 56, .inl c_steady_solvedGains), .inl (0, 1056, .inl c_steady_ways)]
theorem cw_X7_standingAt : CWv mu_X7_standingAt 2 := ⟨⟨all_of 627 (by decide +kernel) (by decide +kernel), all_of 1 (by decide +kernel) (by decide +kernel), by decide +kernel, by decide +kernel, by decide +kernel⟩, all_of 625 (by decide +kernel) (by decide +kernel), all_of 626 (by decide +kernel) (by decide +kernel)⟩
abbrev mu_X7_standingMany : KM := (yX7_standingMany, cX7_standingMany, 3, (some .int), { frames := 5, cells := 0, slots := 0, locals := 112 }, [], [])
def w_X7_standingMany (c_aimed_askers : Int32) (c_aimed_places : Int32) (c_aimed_seatBits : Int32) (c_aimed_entries : Int32) (c_board_askers : Int32) (c_board_places : Int32) (c_steadiness_most : Int32) (c_steadiness_tight : Int32) (c_steady_askers : Int32) (c_steady_places : Int32) (c_steady_seatBits : Int32) (c_steady_entries : Int32) (c_aimed_best : Nat → Int32) (c_aimed_clipAll : Nat → Int32) (c_aimed_clipToOne : Nat → Int32) (c_aimed_clipToTwo : Nat → Int32) (c_aimed_firstOf : Nat → Int32) (c_aimed_gains : Nat → Int32) (c_aimed_left : Nat → Int32) (c_aimed_next : Nat → Int32) (c_aimed_solvedGains : Nat → Int32) (c_aimed_ways : Nat → Int32) (c_all_slots : Nat → Int32) (c_board_likes : Nat → Int32) (c_board_seats : Nat → Int32) (c_board_wishes : Nat → Int32) (c_steadiness_firsts : Nat → Int32) (c_steady_best : Nat → Int32) (c_steady_clipAll : Nat → Int32) (c_steady_clipToOne : Nat → Int32) (c_steady_clipToTwo : Nat → Int32) (c_steady_firstOf : Nat → Int32) (c_steady_gains : Nat → Int32) (c_steady_left : Nat → Int32) (c_steady_next : Nat → Int32) (c_steady_solvedGains : Nat → Int32) (c_steady_ways : Nat → Int32) (u_above : Int64) (u_below : Int64) (u_board_age : Int32) : List mE := [.inr (7, [.ref 2, .ref 1000, .ref 4, .ref 1, .ref 3, .ref 1001, .ref 1002, .ref 1003, .ref 1004, .ref 1005, .long u_above, .long u_below]), .inr (4, [.ref 2, .ref 10, .ref 13, .int c_aimed_askers, .int c_aimed_places, .int c_aimed_seatBits, .ref 11, .ref 5, .ref 14, .ref 12, .ref 9, .int c_aimed_entries, .ref 15, .ref 6, .ref 7, .ref 8]), .inr (0, [.int c_board_askers, .int c_board_places, .int u_board_age, .ref 17, .ref 18, .ref 16, .ref 1006]), .inr (5, [.ref 2, .int c_steadiness_most, .ref 19, .int c_steadiness_tight]), .inr (4, [.ref 2, .ref 25, .ref 28, .int c_steady_askers, .int c_steady_places, .int c_steady_seatBits, .ref 26, .ref 20, .ref 29, .ref 27, .ref 24, .int c_steady_entries, .ref 15, .ref 21, .ref 22, .ref 23]), .inl (0, 1056, .inl c_aimed_best), .inl (0, 9, .inl c_aimed_clipAll), .inl (0, 9, .inl c_aimed_clipToOne), .inl (0, 9, .inl c_aimed_clipToTwo), .inl (0, 10, .inl c_aimed_firstOf), .inl (0, 56, .inl c_aimed_gains), .inl (0, 1056, .inl c_aimed_left), .inl (0, 7392, .inl c_aimed_next), .inl (0, 56, .inl c_aimed_solvedGains), .inl (0, 1056, .inl c_aimed_ways), .inl (0, 4096, .inl c_all_slots), .inl (0, 48, .inl c_board_likes), .inl (0, 6, .inl c_board_seats), .inl (0, 48, .inl c_board_wishes), .inl (0, 8, .inl c_steadiness_firsts), .inl (0, 1056, .inl c_steady_best), .inl (0, 9, .inl c_steady_clipAll), .inl (0, 9, .inl c_steady_clipToOne), .inl (0, 9, .inl c_steady_clipToTwo), .inl (0, 10, .inl c_steady_firstOf), .inl (0, 56, .inl c_steady_gains), .inl (0, 1056, .inl c_steady_left), .inl (0, 7392, .inl c_steady_next), .inl (0, 56, .inl c_steady_solvedGains), .inl (0, 1056, .inl c_steady_ways)]
theorem cw_X7_standingMany : CWv mu_X7_standingMany 1 := ⟨⟨all_of 632 (by decide +kernel) (by decide +kernel), all_of 1 (by decide +kernel) (by decide +kernel), by decide +kernel, by decide +kernel, by decide +kernel⟩, all_of 630 (by decide +kernel) (by decide +kernel), all_of 631 (by decide +kernel) (by decide +kernel)⟩
abbrev mu_X7_isOrder : KM := (yX7_isOrder, cX7_isOrder, 4, (some .boolean), { frames := 0, cells := 0, slots := 0, locals := 0 }, [], [])
def w_X7_isOrder (c_board_askers : Int32) (u_above : Int64) (u_below : Int64) (u_board_places : Int32) (u_board_age : Int32) : List mE := [.inr (7, [.ref 1, .ref 1000, .ref 1001, .ref 1002, .ref 1003, .ref 1004, .ref 1005, .ref 1006, .ref 1007, .ref 1008, .long u_above, .long u_below]), .inr (0, [.int c_board_askers, .int u_board_places, .int u_board_age, .ref 1009, .ref 1010, .ref 1011, .ref 1012])]
theorem cw_X7_isOrder : CWv mu_X7_isOrder 1 := ⟨⟨all_of 640 (by decide +kernel) (by decide +kernel), all_of 1 (by decide +kernel) (by decide +kernel), by decide +kernel, by decide +kernel, by decide +kernel⟩, all_of 639 (by decide +kernel) (by decide +kernel), all_pr 34 (by decide +kernel) (by decide +kernel)⟩
abbrev mu_X7_fillTurn : KM := (yX7_fillTurn, cX7_fillTurn, 5, none, { frames := 2, cells := 0, slots := 0, locals := 45 }, [], [])
def w_X7_fillTurn (c_board_places : Int32) (c_aimed_gains : Nat → Int32) (c_board_wishes : Nat → Int32) (u_above : Int64) (u_below : Int64) (u_aimed_askers : Int32) (u_aimed_places : Int32) (u_aimed_seatBits : Int32) (u_aimed_entries : Int32) (u_board_askers : Int32) (u_board_age : Int32) : List mE := [.inr (7, [.ref 2, .ref 1000, .ref 1001, .ref 1, .ref 1002, .ref 1003, .ref 1004, .ref 1005, .ref 1006, .ref 1007, .long u_above, .long u_below]), .inr (4, [.ref 2, .ref 3, .ref 1008, .int u_aimed_askers, .int u_aimed_places, .int u_aimed_seatBits, .ref 1009, .ref 1010, .ref 1011, .ref 1012, .ref 1013, .int u_aimed_entries, .ref 1014, .ref 1015, .ref 1016, .ref 1017]), .inr (0, [.int u_board_askers, .int c_board_places, .int u_board_age, .ref 1018, .ref 4, .ref 1019, .ref 1020]), .inl (0, 56, .inl c_aimed_gains), .inl (0, 48, .inl c_board_wishes)]
theorem cw_X7_fillTurn : CWv mu_X7_fillTurn 2 := ⟨⟨all_of 644 (by decide +kernel) (by decide +kernel), all_of 1 (by decide +kernel) (by decide +kernel), by decide +kernel, by decide +kernel, by decide +kernel⟩, all_of 643 (by decide +kernel) (by decide +kernel), all_pr 35 (by decide +kernel) (by decide +kernel)⟩
abbrev mu_X7_turn : KM := (yX7_turn, cX7_turn, 5, (some .int), { frames := 4, cells := 0, slots := 0, locals := 92 }, [], [])
def w_X7_turn (c_aimed_askers : Int32) (c_aimed_places : Int32) (c_aimed_seatBits : Int32) (c_aimed_entries : Int32) (c_board_askers : Int32) (c_board_places : Int32) (c_row : Nat → Int32) (c_aimed_best : Nat → Int32) (c_aimed_clipAll : Nat → Int32) (c_aimed_clipToOne : Nat → Int32) (c_aimed_clipToTwo : Nat → Int32) (c_aimed_firstOf : Nat → Int32) (c_aimed_gains : Nat → Int32) (c_aimed_left : Nat → Int32) (c_aimed_next : Nat → Int32) (c_aimed_solvedGains : Nat → Int32) (c_aimed_ways : Nat → Int32) (c_all_slots : Nat → Int32) (c_board_seats : Nat → Int32) (c_board_wishes : Nat → Int32) (u_above : Int64) (u_below : Int64) (u_board_age : Int32) : List mE := [.inr (7, [.ref 2, .ref 1000, .ref 1001, .ref 1, .ref 1002, .ref 1003, .ref 1004, .ref 1005, .ref 1006, .ref 3, .long u_above, .long u_below]), .inr (4, [.ref 2, .ref 9, .ref 12, .int c_aimed_askers, .int c_aimed_places, .int c_aimed_seatBits, .ref 10, .ref 4, .ref 13, .ref 11, .ref 8, .int c_aimed_entries, .ref 14, .ref 5, .ref 6, .ref 7]), .inr (0, [.int c_board_askers, .int c_board_places, .int u_board_age, .ref 15, .ref 16, .ref 1007, .ref 1008]), .inl (0, 8, .inl c_row), .inl (0, 1056, .inl c_aimed_best), .inl (0, 9, .inl c_aimed_clipAll), .inl (0, 9, .inl c_aimed_clipToOne), .inl (0, 9, .inl c_aimed_clipToTwo), .inl (0, 10, .inl c_aimed_firstOf), .inl (0, 56, .inl c_aimed_gains), .inl (0, 1056, .inl c_aimed_left), .inl (0, 7392, .inl c_aimed_next), .inl (0, 56, .inl c_aimed_solvedGains), .inl (0, 1056, .inl c_aimed_ways), .inl (0, 4096, .inl c_all_slots), .inl (0, 6, .inl c_board_seats), .inl (0, 48, .inl c_board_wishes)]
theorem cw_X7_turn : CWv mu_X7_turn 2 := ⟨⟨all_of 636 (by decide +kernel) (by decide +kernel), all_of 1 (by decide +kernel) (by decide +kernel), by decide +kernel, by decide +kernel, by decide +kernel⟩, all_of 634 (by decide +kernel) (by decide +kernel), all_of 635 (by decide +kernel) (by decide +kernel)⟩
abbrev mu_X7_round : KM := (yX7_round, cX7_round, 3, (some .int), { frames := 4, cells := 0, slots := 0, locals := 91 }, [], [])
def w_X7_round (c_board_askers : Int32) (c_board_places : Int32) (c_board_told : Nat → Int32) (c_board_wishes : Nat → Int32) (c_trade_gets : Nat → Int32) (c_trade_holderOf : Nat → Int32) (c_trade_holds : Nat → Int32) (c_trade_pointsAt : Nat → Int32) (c_trade_servedIn : Nat → Int32) (u_above : Int64) (u_below : Int64) (u_board_age : Int32) : List mE := [.inr (7, [.ref 1, .ref 1000, .ref 1001, .ref 1002, .ref 1003, .ref 2, .ref 1004, .ref 1005, .ref 1006, .ref 1007, .long u_above, .long u_below]), .inr (0, [.int c_board_askers, .int c_board_places, .int u_board_age, .ref 1008, .ref 4, .ref 1009, .ref 3]), .inr (6, [.ref 1, .ref 5, .ref 9, .ref 7, .ref 8, .ref 6]), .inl (0, 32, .inl c_board_told), .inl (0, 48, .inl c_board_wishes), .inl (0, 8, .inl c_trade_gets), .inl (0, 6, .inl c_trade_holderOf), .inl (0, 8, .inl c_trade_holds), .inl (0, 8, .inl c_trade_pointsAt), .inl (0, 8, .inl c_trade_servedIn)]
theorem cw_X7_round : CWv mu_X7_round 2 := ⟨⟨all_of 648 (by decide +kernel) (by decide +kernel), all_of 1 (by decide +kernel) (by decide +kernel), by decide +kernel, by decide +kernel, by decide +kernel⟩, all_of 646 (by decide +kernel) (by decide +kernel), all_of 647 (by decide +kernel) (by decide +kernel)⟩
abbrev mu_X7_leaving : KM := (yX7_leaving, cX7_leaving, 4, (some .int), { frames := 25, cells := 0, slots := 0, locals := 800 }, [], [])
def w_X7_leaving (c_board_askers : Int32) (c_ring_length : Int32) (c_board_told : Nat → Int32) (c_board_wishes : Nat → Int32) (c_ring_members : Nat → Int32) (c_ring_wants : Nat → Int32) (u_above : Int64) (u_below : Int64) (u_board_places : Int32) (u_board_age : Int32) : List mE := [.inr (7, [.ref 1, .ref 1000, .ref 1001, .ref 1002, .ref 1003, .ref 1004, .ref 2, .ref 1005, .ref 1006, .ref 1007, .long u_above, .long u_below]), .inr (0, [.int c_board_askers, .int u_board_places, .int u_board_age, .ref 1008, .ref 4, .ref 1009, .ref 3]), .inr (3, [.ref 1, .ref 5, .int c_ring_length, .ref 6]), .inl (0, 32, .inl c_board_told), .inl (0, 48, .inl c_board_wishes), .inl (0, 8, .inl c_ring_members), .inl (0, 8, .inl c_ring_wants)]
theorem cw_X7_leaving : CWv mu_X7_leaving 3 := ⟨⟨all_of 652 (by decide +kernel) (by decide +kernel), all_of 1 (by decide +kernel) (by decide +kernel), by decide +kernel, by decide +kernel, by decide +kernel⟩, all_of 650 (by decide +kernel) (by decide +kernel), all_of 651 (by decide +kernel) (by decide +kernel)⟩
abbrev mu_X7_chance : KM := (yX7_chance, cX7_chance, 3, (some .int), { frames := 26, cells := 0, slots := 0, locals := 851 }, [(1000, 9, ro_ORDERS)], [("WishPlaces$Lots", "ORDERS", 1000)])
def w_X7_chance (c_board_askers : Int32) (c_board_places : Int32) (c_board_age : Int32) (c_lots_age : Int32) (c_lots_runs : Int64) (c_lots_wanting : Int32) (c_lots_wanted : Int32) (c_board_likes : Nat → Int32) (c_board_seats : Nat → Int32) (c_board_wishes : Nat → Int32) (c_lots_answers : Nat → Int32) (c_lots_memoKeys : Nat → Int64) (c_lots_memos : Nat → Int32) (u_above : Int64) (u_below : Int64) : List mE := [.inr (7, [.ref 1, .ref 1001, .ref 1002, .ref 1003, .ref 1004, .ref 1005, .ref 1006, .ref 2, .ref 1007, .ref 1008, .long u_above, .long u_below]), .inr (0, [.int c_board_askers, .int c_board_places, .int c_board_age, .ref 4, .ref 5, .ref 3, .ref 1009]), .inr (2, [.ref 1, .ref 6, .int c_lots_age, .ref 7, .ref 8, .long c_lots_runs, .int c_lots_wanting, .int c_lots_wanted]), .inl (0, 48, .inl c_board_likes), .inl (0, 6, .inl c_board_seats), .inl (0, 48, .inl c_board_wishes), .inl (0, 48, .inl c_lots_answers), .inl (1, 2048, .inr (.inl c_lots_memoKeys)), .inl (0, 2048, .inl c_lots_memos)]
theorem cw_X7_chance : CWv mu_X7_chance 2 := ⟨⟨all_of 674 (by decide +kernel) (by decide +kernel), all_of 1 (by decide +kernel) (by decide +kernel), by decide +kernel, by decide +kernel, by decide +kernel⟩, all_of 672 (by decide +kernel) (by decide +kernel), all_of 673 (by decide +kernel) (by decide +kernel)⟩
abbrev mu_X7_share : KM := (yX7_share, cX7_share, 5, (some .int), { frames := 4, cells := 0, slots := 0, locals := 91 }, [], [])
def w_X7_share (c_above : Int64) (c_below : Int64) (c_board_askers : Int32) (c_board_places : Int32) (c_eating_whole : Int64) (c_eating_time : Int64) (c_board_likes : Nat → Int32) (c_board_seats : Nat → Int32) (c_eating_eaten : Nat → Int64) (c_eating_eaters : Nat → Int32) (c_eating_eatsAt : Nat → Int32) (c_eating_rest : Nat → Int64) (u_board_age : Int32) : List mE := [.inr (7, [.ref 1, .ref 1000, .ref 1001, .ref 1002, .ref 1003, .ref 1004, .ref 1005, .ref 1006, .ref 2, .ref 1007, .long c_above, .long c_below]), .inr (0, [.int c_board_askers, .int c_board_places, .int u_board_age, .ref 4, .ref 1008, .ref 3, .ref 1009]), .inr (1, [.long c_eating_whole, .ref 1, .long c_eating_time, .ref 5, .ref 8, .ref 7, .ref 6]), .inl (0, 48, .inl c_board_likes), .inl (0, 6, .inl c_board_seats), .inl (1, 48, .inr (.inl c_eating_eaten)), .inl (0, 6, .inl c_eating_eaters), .inl (0, 8, .inl c_eating_eatsAt), .inl (1, 6, .inr (.inl c_eating_rest))]
theorem cw_X7_share : CWv mu_X7_share 2 := ⟨⟨all_of 700 (by decide +kernel) (by decide +kernel), all_of 1 (by decide +kernel) (by decide +kernel), by decide +kernel, by decide +kernel, by decide +kernel⟩, all_of 698 (by decide +kernel) (by decide +kernel), all_of 699 (by decide +kernel) (by decide +kernel)⟩
abbrev mu_X7_envies : KM := (yX7_envies, cX7_envies, 4, (some .int), { frames := 4, cells := 0, slots := 0, locals := 91 }, [], [])
def w_X7_envies (c_board_askers : Int32) (c_board_places : Int32) (c_eating_whole : Int64) (c_eating_time : Int64) (c_board_likes : Nat → Int32) (c_board_seats : Nat → Int32) (c_board_wishes : Nat → Int32) (c_eating_eaten : Nat → Int64) (c_eating_eaters : Nat → Int32) (c_eating_eatsAt : Nat → Int32) (c_eating_rest : Nat → Int64) (u_above : Int64) (u_below : Int64) (u_board_age : Int32) : List mE := [.inr (7, [.ref 1, .ref 1000, .ref 1001, .ref 1002, .ref 1003, .ref 1004, .ref 1005, .ref 1006, .ref 2, .ref 1007, .long u_above, .long u_below]), .inr (0, [.int c_board_askers, .int c_board_places, .int u_board_age, .ref 4, .ref 5, .ref 3, .ref 1008]), .inr (1, [.long c_eating_whole, .ref 1, .long c_eating_time, .ref 6, .ref 9, .ref 8, .ref 7]), .inl (0, 48, .inl c_board_likes), .inl (0, 6, .inl c_board_seats), .inl (0, 48, .inl c_board_wishes), .inl (1, 48, .inr (.inl c_eating_eaten)), .inl (0, 6, .inl c_eating_eaters), .inl (0, 8, .inl c_eating_eatsAt), .inl (1, 6, .inr (.inl c_eating_rest))]
theorem cw_X7_envies : CWv mu_X7_envies 2 := ⟨⟨all_of 733 (by decide +kernel) (by decide +kernel), all_of 1 (by decide +kernel) (by decide +kernel), by decide +kernel, by decide +kernel, by decide +kernel⟩, all_of 731 (by decide +kernel) (by decide +kernel), all_of 732 (by decide +kernel) (by decide +kernel)⟩
abbrev mu_X7_count : KM := (yX7_count, cX7_count, 2, (some .int), { frames := 1, cells := 0, slots := 0, locals := 22 }, [], [])
def w_X7_count (c_board_askers : Int32) (c_board_places : Int32) (c_board_seats : Nat → Int32) (c_board_wishes : Nat → Int32) (u_above : Int64) (u_below : Int64) (u_board_age : Int32) : List mE := [.inr (7, [.ref 1, .ref 1000, .ref 1001, .ref 1002, .ref 1003, .ref 1004, .ref 1005, .ref 1006, .ref 1007, .ref 1008, .long u_above, .long u_below]), .inr (0, [.int c_board_askers, .int c_board_places, .int u_board_age, .ref 2, .ref 3, .ref 1009, .ref 1010]), .inl (0, 6, .inl c_board_seats), .inl (0, 48, .inl c_board_wishes)]
theorem cw_X7_count : CWv mu_X7_count 1 := ⟨⟨all_of 742 (by decide +kernel) (by decide +kernel), all_of 1 (by decide +kernel) (by decide +kernel), by decide +kernel, by decide +kernel, by decide +kernel⟩, all_of 740 (by decide +kernel) (by decide +kernel), all_of 741 (by decide +kernel) (by decide +kernel)⟩
set_option maxRecDepth 20000 in
theorem dX7_countFallers_0 : decode cX7_countFallers 0 = .ok (.iconst 0, 1) := by decide +kernel
set_option maxRecDepth 20000 in
theorem dX7_countFallers_1 : decode cX7_countFallers 1 = .ok (.istore_n 2, 1) := by decide +kernel
set_option maxRecDepth 20000 in
theorem dX7_countFallers_2 : decode cX7_countFallers 2 = .ok (.iconst 0, 1) := by decide +kernel
set_option maxRecDepth 20000 in
theorem dX7_countFallers_3 : decode cX7_countFallers 3 = .ok (.istore_n 3, 1) := by decide +kernel
set_option maxRecDepth 20000 in
theorem dX7_countFallers_4 : decode cX7_countFallers 4 = .ok (.iload_n 3, 1) := by decide +kernel
set_option maxRecDepth 20000 in
theorem dX7_countFallers_5 : decode cX7_countFallers 5 = .ok (.aload_n 0, 1) := by decide +kernel
set_option maxRecDepth 20000 in
theorem dX7_countFallers_6 : decode cX7_countFallers 6 = .ok (.getfield 10, 3) := by decide +kernel
set_option maxRecDepth 20000 in
theorem dX7_countFallers_9 : decode cX7_countFallers 9 = .ok (.getfield 79, 3) := by decide +kernel
set_option maxRecDepth 20000 in
theorem dX7_countFallers_12 : decode cX7_countFallers 12 = .ok (.if_icmp .ge 38, 3) := by decide +kernel
set_option maxRecDepth 20000 in
theorem dX7_countFallers_15 : decode cX7_countFallers 15 = .ok (.aload_n 0, 1) := by decide +kernel
set_option maxRecDepth 20000 in
theorem dX7_countFallers_16 : decode cX7_countFallers 16 = .ok (.getfield 10, 3) := by decide +kernel
set_option maxRecDepth 20000 in
theorem dX7_countFallers_19 : decode cX7_countFallers 19 = .ok (.iload_n 3, 1) := by decide +kernel
set_option maxRecDepth 20000 in
theorem dX7_countFallers_20 : decode cX7_countFallers 20 = .ok (.aload_n 0, 1) := by decide +kernel
set_option maxRecDepth 20000 in
theorem dX7_countFallers_21 : decode cX7_countFallers 21 = .ok (.getfield 68, 3) := by decide +kernel
set_option maxRecDepth 20000 in
theorem dX7_countFallers_24 : decode cX7_countFallers 24 = .ok (.iload_n 3, 1) := by decide +kernel
set_option maxRecDepth 20000 in
theorem dX7_countFallers_25 : decode cX7_countFallers 25 = .ok (.iaload, 1) := by decide +kernel
set_option maxRecDepth 20000 in
theorem dX7_countFallers_26 : decode cX7_countFallers 26 = .ok (.invokevirtual 118, 3) := by decide +kernel
set_option maxRecDepth 20000 in
theorem dX7_countFallers_29 : decode cX7_countFallers 29 = .ok (.aload_n 0, 1) := by decide +kernel
set_option maxRecDepth 20000 in
theorem dX7_countFallers_30 : decode cX7_countFallers 30 = .ok (.getfield 10, 3) := by decide +kernel
set_option maxRecDepth 20000 in
theorem dX7_countFallers_33 : decode cX7_countFallers 33 = .ok (.iload_n 1, 1) := by decide +kernel
set_option maxRecDepth 20000 in
theorem dX7_countFallers_34 : decode cX7_countFallers 34 = .ok (.iload_n 3, 1) := by decide +kernel
set_option maxRecDepth 20000 in
theorem dX7_countFallers_35 : decode cX7_countFallers 35 = .ok (.invokevirtual 163, 3) := by decide +kernel
set_option maxRecDepth 20000 in
theorem dX7_countFallers_38 : decode cX7_countFallers 38 = .ok (.if_icmp .le 6, 3) := by decide +kernel
set_option maxRecDepth 20000 in
theorem dX7_countFallers_41 : decode cX7_countFallers 41 = .ok (.iinc 2 1, 3) := by decide +kernel
set_option maxRecDepth 20000 in
theorem dX7_countFallers_44 : decode cX7_countFallers 44 = .ok (.iinc 3 1, 3) := by decide +kernel
set_option maxRecDepth 20000 in
theorem dX7_countFallers_47 : decode cX7_countFallers 47 = .ok (.goto (-43), 3) := by decide +kernel
set_option maxRecDepth 20000 in
theorem dX7_countFallers_50 : decode cX7_countFallers 50 = .ok (.iload_n 2, 1) := by decide +kernel
set_option maxRecDepth 20000 in
theorem dX7_countFallers_51 : decode cX7_countFallers 51 = .ok (.ireturn, 1) := by decide +kernel
def f_X7_countFallers_4 (N : Nat) (c_board_askers : Int32) (c_row : Nat → Int32) (c_board_told : Nat → Int32) (c_board_wishes : Nat → Int32) : Nat → Int32 → Int32 → Int32 → Option (Int32)
  | 0, _, _, _ => none
  | n + 1, v1, v2, v3 =>
    (if c_board_askers ≤ v3 then
      some v2
    else
      (rdI 8 c_row v3).bind fun t2 =>
      (f_X0_worthOf N c_board_wishes v3 t2).bind fun r3 =>
      (f_X0_toldWorth N c_board_told c_board_wishes v1 v3).bind fun r5 =>
      (if r3 ≤ r5 then
        f_X7_countFallers_4 N c_board_askers c_row c_board_told c_board_wishes n v1 v2 (v3 + 1)
      else
        f_X7_countFallers_4 N c_board_askers c_row c_board_told c_board_wishes n v1 (v2 + 1) (v3 + 1)))
set_option maxHeartbeats 4000000 in
set_option maxRecDepth 100000 in
theorem g_X7_countFallers_4 {κ : KC} {ω : KW} {A : Nat → Prop} {ad : Nat → Nat} {u_above : Int64} {u_below : Int64} {u_board_places : Int32} {u_board_age : Int32} {N : Nat} {c_board_askers : Int32} {c_row : Nat → Int32} {c_board_told : Nat → Int32} {c_board_wishes : Nat → Int32}  {res : Int32} : ∀ (n : Nat) {v1 : Int32} {v2 : Int32} {v3 : Int32}, f_X7_countFallers_4 N c_board_askers c_row c_board_told c_board_wishes n v1 v2 v3 = some res → GG mu_X7_countFallers κ ω A (QR κ ω A ad (some (.int res)) (w_X7_countFallers c_board_askers c_row c_board_told c_board_wishes u_above u_below u_board_places u_board_age)) ad 0 0 4 (w_X7_countFallers c_board_askers c_row c_board_told c_board_wishes u_above u_below u_board_places u_board_age) [some (.ref 0), some (.int v1), some (.int v2), some (.int v3)] [] := by
  intro n
  induction n with
  | zero => intro v1 v2 v3 hf; exact ob_0 hf
  | succ n ih =>
    intro v1 v2 v3 hf
    refine G_iload_n dX7_countFallers_4 rfl rfl ?_
    refine G_aload_n dX7_countFallers_5 rfl rfl ?_
    refine G_get (v := .ref 1) F_X7_10 dX7_countFallers_6 rfl rfl ?_
    refine G_get (v := .int c_board_askers) F_X7_79 dX7_countFallers_9 rfl rfl ?_
    refine G_icmp_ge 50 dX7_countFallers_12 (by decide) (fun h1 => ?_) (fun h1 => ?_)
    · replace hf := ob_t h1 hf
      refine G_iload_n dX7_countFallers_50 rfl rfl ?_
      obtain rfl := os hf
      exact G_ireturn dX7_countFallers_51 rfl
    · replace hf := ob_f h1 hf
      refine G_aload_n dX7_countFallers_15 rfl rfl ?_
      refine G_get (v := .ref 1) F_X7_10 dX7_countFallers_16 rfl rfl ?_
      refine G_iload_n dX7_countFallers_19 rfl rfl ?_
      refine G_aload_n dX7_countFallers_20 rfl rfl ?_
      refine G_get (v := .ref 2) F_X7_68 dX7_countFallers_21 rfl rfl ?_
      refine G_iload_n dX7_countFallers_24 rfl rfl ?_
      obtain ⟨t2, ht2, hf⟩ := ob hf
      refine G_iald dX7_countFallers_25 rfl ht2 ?_
      obtain ⟨r3, hc4, hf⟩ := ob hf
      refine G_callV (μ2 := mu_X0_worthOf) (As := [.int v3, .int t2]) (w2 := (w_X7_countFallers c_board_askers c_row c_board_told c_board_wishes u_above u_below u_board_places u_board_age)) (wc := (w_X0_worthOf c_board_wishes c_board_askers u_board_places u_board_age)) (wc2 := (w_X0_worthOf c_board_wishes c_board_askers u_board_places u_board_age)) (rest := []) (rv := [.int r3]) [1, 4] [1008, 1009, 3] [0, 2, 3] [0, 3, 1, 2, 4] (c_X0_worthOf hc4) cw_X0_worthOf m_X7_118 dX7_countFallers_26 rfl ⟨leb rfl, leb rfl⟩ ⟨rfl, rfl⟩ rfl ⟨_, rfl, rfl⟩ (Fit.mk rfl rfl rfl) rfl (leb rfl) (ROsub.nil rfl rfl) rfl ?_
      change GG _ _ _ _ _ _ _ _ _ (w_X7_countFallers c_board_askers c_row c_board_told c_board_wishes u_above u_below u_board_places u_board_age) [some (.ref 0), some (.int v1), some (.int v2), some (.int v3)] [.int r3]
      refine G_aload_n dX7_countFallers_29 rfl rfl ?_
      refine G_get (v := .ref 1) F_X7_10 dX7_countFallers_30 rfl rfl ?_
      refine G_iload_n dX7_countFallers_33 rfl rfl ?_
      refine G_iload_n dX7_countFallers_34 rfl rfl ?_
      obtain ⟨r5, hc6, hf⟩ := ob hf
      refine G_callV (μ2 := mu_X0_toldWorth) (As := [.int v1, .int v3]) (w2 := (w_X7_countFallers c_board_askers c_row c_board_told c_board_wishes u_above u_below u_board_places u_board_age)) (wc := (w_X0_toldWorth c_board_told c_board_wishes c_board_askers u_board_places u_board_age)) (wc2 := (w_X0_toldWorth c_board_told c_board_wishes c_board_askers u_board_places u_board_age)) (rest := [.int r3]) (rv := [.int r5]) [1, 3, 4] [1008, 1009] [0, 2] [0, 2, 1, 3, 4] (c_X0_toldWorth hc6) cw_X0_toldWorth m_X7_163 dX7_countFallers_35 rfl ⟨leb rfl, leb rfl⟩ ⟨rfl, rfl⟩ rfl ⟨_, rfl, rfl⟩ (Fit.mk rfl rfl rfl) rfl (leb rfl) (ROsub.nil rfl rfl) rfl ?_
      change GG _ _ _ _ _ _ _ _ _ (w_X7_countFallers c_board_askers c_row c_board_told c_board_wishes u_above u_below u_board_places u_board_age) [some (.ref 0), some (.int v1), some (.int v2), some (.int v3)] [.int r5, .int r3]
      refine G_icmp_le 44 dX7_countFallers_38 (by decide) (fun h7 => ?_) (fun h7 => ?_)
      · replace hf := ob_t h7 hf
        refine G_iinc 1 dX7_countFallers_44 (by decide) rfl (ltb rfl) ?_
        change GG _ _ _ _ _ _ _ _ _ _ [some (.ref 0), some (.int v1), some (.int v2), some (.int (v3 + 1))] _
        refine G_goto 4 dX7_countFallers_47 (by decide) ?_
        exact ih hf
      · replace hf := ob_f h7 hf
        refine G_iinc 1 dX7_countFallers_41 (by decide) rfl (ltb rfl) ?_
        change GG _ _ _ _ _ _ _ _ _ _ [some (.ref 0), some (.int v1), some (.int (v2 + 1)), some (.int v3)] _
        refine G_iinc 1 dX7_countFallers_44 (by decide) rfl (ltb rfl) ?_
        change GG _ _ _ _ _ _ _ _ _ _ [some (.ref 0), some (.int v1), some (.int (v2 + 1)), some (.int (v3 + 1))] _
        refine G_goto 4 dX7_countFallers_47 (by decide) ?_
        exact ih hf
def f_X7_countFallers (N : Nat) (c_board_askers : Int32) (c_row : Nat → Int32) (c_board_told : Nat → Int32) (c_board_wishes : Nat → Int32) (a1 : Int32) : Option (Int32) :=
  f_X7_countFallers_4 N c_board_askers c_row c_board_told c_board_wishes N a1 0 0
set_option maxHeartbeats 4000000 in
set_option maxRecDepth 100000 in
theorem c_X7_countFallers {N : Nat} {c_board_askers : Int32} {c_row : Nat → Int32} {c_board_told : Nat → Int32} {c_board_wishes : Nat → Int32}  {u_above : Int64} {u_below : Int64} {u_board_places : Int32} {u_board_age : Int32} {a1 : Int32} {res : Int32} (hf : f_X7_countFallers N c_board_askers c_row c_board_told c_board_wishes a1 = some res) : Con mu_X7_countFallers [.ref 0, .int a1] (w_X7_countFallers c_board_askers c_row c_board_told c_board_wishes u_above u_below u_board_places u_board_age) (some (.int res)) (w_X7_countFallers c_board_askers c_row c_board_told c_board_wishes u_above u_below u_board_places u_board_age) := by
  refine Con.mk (show plainName RX7 = true by decide +kernel) (leb rfl) (fun κ ω A ad => ?_)
  change GG mu_X7_countFallers κ ω A (QR κ ω A ad (some (.int res)) (w_X7_countFallers c_board_askers c_row c_board_told c_board_wishes u_above u_below u_board_places u_board_age)) ad 0 0 0 (w_X7_countFallers c_board_askers c_row c_board_told c_board_wishes u_above u_below u_board_places u_board_age) [some (.ref 0), some (.int a1), none, none] []
  refine G_iconst 0 dX7_countFallers_0 (by decide) ?_
  refine G_istore_n dX7_countFallers_1 rfl (ltb rfl) ?_
  change GG _ _ _ _ _ _ _ _ _ _ [some (.ref 0), some (.int a1), some (.int 0), none] _
  refine G_iconst 0 dX7_countFallers_2 (by decide) ?_
  refine G_istore_n dX7_countFallers_3 rfl (ltb rfl) ?_
  change GG _ _ _ _ _ _ _ _ _ _ [some (.ref 0), some (.int a1), some (.int 0), some (.int 0)] _
  exact g_X7_countFallers_4 N hf
set_option maxRecDepth 20000 in
theorem dX7_votes_0 : decode cX7_votes 0 = .ok (.iload_n 1, 1) := by decide +kernel
set_option maxRecDepth 20000 in
theorem dX7_votes_1 : decode cX7_votes 1 = .ok (.invokestatic 135, 3) := by decide +kernel
set_option maxRecDepth 20000 in
theorem dX7_votes_4 : decode cX7_votes 4 = .ok (.ifCond .eq 10, 3) := by decide +kernel
set_option maxRecDepth 20000 in
theorem dX7_votes_7 : decode cX7_votes 7 = .ok (.iload_n 2, 1) := by decide +kernel
set_option maxRecDepth 20000 in
theorem dX7_votes_8 : decode cX7_votes 8 = .ok (.invokestatic 135, 3) := by decide +kernel
set_option maxRecDepth 20000 in
theorem dX7_votes_11 : decode cX7_votes 11 = .ok (.ifCond .ne 6, 3) := by decide +kernel
set_option maxRecDepth 20000 in
theorem dX7_votes_14 : decode cX7_votes 14 = .ok (.bipush (-100), 2) := by decide +kernel
set_option maxRecDepth 20000 in
theorem dX7_votes_16 : decode cX7_votes 16 = .ok (.ireturn, 1) := by decide +kernel
set_option maxRecDepth 20000 in
theorem dX7_votes_17 : decode cX7_votes 17 = .ok (.aload_n 0, 1) := by decide +kernel
set_option maxRecDepth 20000 in
theorem dX7_votes_18 : decode cX7_votes 18 = .ok (.iload_n 1, 1) := by decide +kernel
set_option maxRecDepth 20000 in
theorem dX7_votes_19 : decode cX7_votes 19 = .ok (.invokevirtual 155, 3) := by decide +kernel
set_option maxRecDepth 20000 in
theorem dX7_votes_22 : decode cX7_votes 22 = .ok (.aload_n 0, 1) := by decide +kernel
set_option maxRecDepth 20000 in
theorem dX7_votes_23 : decode cX7_votes 23 = .ok (.iload_n 2, 1) := by decide +kernel
set_option maxRecDepth 20000 in
theorem dX7_votes_24 : decode cX7_votes 24 = .ok (.invokevirtual 166, 3) := by decide +kernel
set_option maxRecDepth 20000 in
theorem dX7_votes_27 : decode cX7_votes 27 = .ok (.aload_n 0, 1) := by decide +kernel
set_option maxRecDepth 20000 in
theorem dX7_votes_28 : decode cX7_votes 28 = .ok (.iload_n 2, 1) := by decide +kernel
set_option maxRecDepth 20000 in
theorem dX7_votes_29 : decode cX7_votes 29 = .ok (.invokevirtual 169, 3) := by decide +kernel
set_option maxRecDepth 20000 in
theorem dX7_votes_32 : decode cX7_votes 32 = .ok (.isub, 1) := by decide +kernel
set_option maxRecDepth 20000 in
theorem dX7_votes_33 : decode cX7_votes 33 = .ok (.ireturn, 1) := by decide +kernel
def f_X7_votes (N : Nat) (c_board_askers : Int32) (c_board_told : Nat → Int32) (c_board_wishes : Nat → Int32) (c_row : Nat → Int32) (a1 : Int32) (a2 : Int32) : Option (Int32 × (Nat → Int32)) :=
  (f_X7_isTold N a1).bind fun r1 =>
  (if r1 = 0 then
    some ((-100 : Int32), c_row)
  else
    (f_X7_isTold N a2).bind fun r4 =>
    (if r4 = 0 then
      some ((-100 : Int32), c_row)
    else
      (f_X7_copyTold N c_board_askers c_board_told c_row a1).bind fun o7 =>
      (f_X7_countRisers N c_board_askers o7 c_board_told c_board_wishes a2).bind fun r9 =>
      (f_X7_countFallers N c_board_askers o7 c_board_told c_board_wishes a2).bind fun r11 =>
      some (r9 - r11, o7)))
set_option maxHeartbeats 4000000 in
set_option maxRecDepth 100000 in
theorem c_X7_votes {N : Nat} {c_board_askers : Int32} {c_board_told : Nat → Int32} {c_board_wishes : Nat → Int32} {c_row : Nat → Int32} {u_above : Int64} {u_below : Int64} {u_board_places : Int32} {u_board_age : Int32} {a1 : Int32} {a2 : Int32} {res : Int32 × (Nat → Int32)} (hf : f_X7_votes N c_board_askers c_board_told c_board_wishes c_row a1 a2 = some res) : Con mu_X7_votes [.ref 0, .int a1, .int a2] (w_X7_votes c_board_askers c_row c_board_told c_board_wishes u_above u_below u_board_places u_board_age) (some (.int res.1)) (w_X7_votes c_board_askers res.2 c_board_told c_board_wishes u_above u_below u_board_places u_board_age) := by
  refine Con.mk (show plainName RX7 = true by decide +kernel) (leb rfl) (fun κ ω A ad => ?_)
  change GG mu_X7_votes κ ω A (QR κ ω A ad (some (.int res.1)) (w_X7_votes c_board_askers res.2 c_board_told c_board_wishes u_above u_below u_board_places u_board_age)) ad 0 0 0 (w_X7_votes c_board_askers c_row c_board_told c_board_wishes u_above u_below u_board_places u_board_age) [some (.ref 0), some (.int a1), some (.int a2)] []
  refine G_iload_n dX7_votes_0 rfl rfl ?_
  obtain ⟨r1, hc2, hf⟩ := ob hf
  refine G_callS (μ2 := mu_X7_isTold) (As := [.int a1]) (w2 := (w_X7_votes c_board_askers c_row c_board_told c_board_wishes u_above u_below u_board_places u_board_age)) (wc := []) (wc2 := []) (rest := []) (rv := [.int r1]) [] [] [0, 1, 2, 3, 4] [0, 1, 2, 3, 4] (c_X7_isTold hc2) cw_X7_isTold m_X7_135 rfl dX7_votes_1 rfl ⟨leb rfl, leb rfl⟩ ⟨rfl, rfl⟩ (Fit.mk rfl rfl rfl) rfl (leb rfl) (ROsub.nil rfl rfl) rfl ?_
  change GG _ _ _ _ _ _ _ _ _ (w_X7_votes c_board_askers c_row c_board_told c_board_wishes u_above u_below u_board_places u_board_age) [some (.ref 0), some (.int a1), some (.int a2)] [.int r1]
  refine G_if_eq 14 dX7_votes_4 (by decide) (fun h3 => ?_) (fun h3 => ?_)
  · replace hf := ob_t h3 hf
    refine G_bipush (-100 : Int32) dX7_votes_14 (by decide) ?_
    obtain rfl := os hf
    exact G_ireturn dX7_votes_16 rfl
  · replace hf := ob_f h3 hf
    refine G_iload_n dX7_votes_7 rfl rfl ?_
    obtain ⟨r4, hc5, hf⟩ := ob hf
    refine G_callS (μ2 := mu_X7_isTold) (As := [.int a2]) (w2 := (w_X7_votes c_board_askers c_row c_board_told c_board_wishes u_above u_below u_board_places u_board_age)) (wc := []) (wc2 := []) (rest := []) (rv := [.int r4]) [] [] [0, 1, 2, 3, 4] [0, 1, 2, 3, 4] (c_X7_isTold hc5) cw_X7_isTold m_X7_135 rfl dX7_votes_8 rfl ⟨leb rfl, leb rfl⟩ ⟨rfl, rfl⟩ (Fit.mk rfl rfl rfl) rfl (leb rfl) (ROsub.nil rfl rfl) rfl ?_
    change GG _ _ _ _ _ _ _ _ _ (w_X7_votes c_board_askers c_row c_board_told c_board_wishes u_above u_below u_board_places u_board_age) [some (.ref 0), some (.int a1), some (.int a2)] [.int r4]
    refine G_if_ne 17 dX7_votes_11 (by decide) (fun h6 => ?_) (fun h6 => ?_)
    · replace hf := ob_f h6 hf
      refine G_aload_n dX7_votes_17 rfl rfl ?_
      refine G_iload_n dX7_votes_18 rfl rfl ?_
      obtain ⟨o7, hc8, hf⟩ := ob hf
      refine G_callV (μ2 := mu_X7_copyTold) (As := [.int a1]) (w2 := (w_X7_votes c_board_askers o7 c_board_told c_board_wishes u_above u_below u_board_places u_board_age)) (wc := (w_X7_copyTold c_board_askers c_row c_board_told u_above u_below u_board_places u_board_age)) (wc2 := (w_X7_copyTold c_board_askers o7 c_board_told u_above u_below u_board_places u_board_age)) (rest := []) (rv := []) [0, 1, 2, 3] [1000, 1001, 1002, 1003, 1004, 1005, 1006, 1007, 1008, 4, 1009] [4] [1, 2, 3, 4, 0] (c_X7_copyTold hc8) cw_X7_copyTold m_X7_155 dX7_votes_19 rfl ⟨leb rfl, leb rfl⟩ ⟨rfl, rfl⟩ rfl ⟨_, rfl, rfl⟩ (Fit.mk rfl rfl rfl) rfl (leb rfl) (ROsub.nil rfl rfl) rfl ?_
      change GG _ _ _ _ _ _ _ _ _ (w_X7_votes c_board_askers o7 c_board_told c_board_wishes u_above u_below u_board_places u_board_age) [some (.ref 0), some (.int a1), some (.int a2)] []
      refine G_aload_n dX7_votes_22 rfl rfl ?_
      refine G_iload_n dX7_votes_23 rfl rfl ?_
      obtain ⟨r9, hc10, hf⟩ := ob hf
      refine G_callV (μ2 := mu_X7_countRisers) (As := [.int a2]) (w2 := (w_X7_votes c_board_askers o7 c_board_told c_board_wishes u_above u_below u_board_places u_board_age)) (wc := (w_X7_countRisers c_board_askers o7 c_board_told c_board_wishes u_above u_below u_board_places u_board_age)) (wc2 := (w_X7_countRisers c_board_askers o7 c_board_told c_board_wishes u_above u_below u_board_places u_board_age)) (rest := []) (rv := [.int r9]) [0, 1, 2, 3, 4] [1000, 1001, 1002, 1003, 1004, 1005, 1006, 1007, 1008, 1009] [] [0, 1, 2, 3, 4] (c_X7_countRisers hc10) cw_X7_countRisers m_X7_166 dX7_votes_24 rfl ⟨leb rfl, leb rfl⟩ ⟨rfl, rfl⟩ rfl ⟨_, rfl, rfl⟩ (Fit.mk rfl rfl rfl) rfl (leb rfl) (ROsub.nil rfl rfl) rfl ?_
      change GG _ _ _ _ _ _ _ _ _ (w_X7_votes c_board_askers o7 c_board_told c_board_wishes u_above u_below u_board_places u_board_age) [some (.ref 0), some (.int a1), some (.int a2)] [.int r9]
      refine G_aload_n dX7_votes_27 rfl rfl ?_
      refine G_iload_n dX7_votes_28 rfl rfl ?_
      obtain ⟨r11, hc12, hf⟩ := ob hf
      refine G_callV (μ2 := mu_X7_countFallers) (As := [.int a2]) (w2 := (w_X7_votes c_board_askers o7 c_board_told c_board_wishes u_above u_below u_board_places u_board_age)) (wc := (w_X7_countFallers c_board_askers o7 c_board_told c_board_wishes u_above u_below u_board_places u_board_age)) (wc2 := (w_X7_countFallers c_board_askers o7 c_board_told c_board_wishes u_above u_below u_board_places u_board_age)) (rest := [.int r9]) (rv := [.int r11]) [0, 1, 2, 3, 4] [1000, 1001, 1002, 1003, 1004, 1005, 1006, 1007, 1008, 1009] [] [0, 1, 2, 3, 4] (c_X7_countFallers hc12) cw_X7_countFallers m_X7_169 dX7_votes_29 rfl ⟨leb rfl, leb rfl⟩ ⟨rfl, rfl⟩ rfl ⟨_, rfl, rfl⟩ (Fit.mk rfl rfl rfl) rfl (leb rfl) (ROsub.nil rfl rfl) rfl ?_
      change GG _ _ _ _ _ _ _ _ _ (w_X7_votes c_board_askers o7 c_board_told c_board_wishes u_above u_below u_board_places u_board_age) [some (.ref 0), some (.int a1), some (.int a2)] [.int r11, .int r9]
      refine G_isub dX7_votes_32 ?_
      obtain rfl := os hf
      exact G_ireturn dX7_votes_33 rfl
    · replace hf := ob_t h6 hf
      refine G_bipush (-100 : Int32) dX7_votes_14 (by decide) ?_
      obtain rfl := os hf
      exact G_ireturn dX7_votes_16 rfl
set_option maxRecDepth 20000 in
theorem dX7_margin_0 : decode cX7_margin 0 = .ok (.iload_n 1, 1) := by decide +kernel
set_option maxRecDepth 20000 in
theorem dX7_margin_1 : decode cX7_margin 1 = .ok (.invokestatic 135, 3) := by decide +kernel
set_option maxRecDepth 20000 in
theorem dX7_margin_4 : decode cX7_margin 4 = .ok (.ifCond .ne 6, 3) := by decide +kernel
set_option maxRecDepth 20000 in
theorem dX7_margin_7 : decode cX7_margin 7 = .ok (.bipush (-2), 2) := by decide +kernel
set_option maxRecDepth 20000 in
theorem dX7_margin_9 : decode cX7_margin 9 = .ok (.ireturn, 1) := by decide +kernel
set_option maxRecDepth 20000 in
theorem dX7_margin_10 : decode cX7_margin 10 = .ok (.aload_n 0, 1) := by decide +kernel
set_option maxRecDepth 20000 in
theorem dX7_margin_11 : decode cX7_margin 11 = .ok (.iload_n 1, 1) := by decide +kernel
set_option maxRecDepth 20000 in
theorem dX7_margin_12 : decode cX7_margin 12 = .ok (.iconst 1, 1) := by decide +kernel
set_option maxRecDepth 20000 in
theorem dX7_margin_13 : decode cX7_margin 13 = .ok (.iconst (-1), 1) := by decide +kernel
set_option maxRecDepth 20000 in
theorem dX7_margin_14 : decode cX7_margin 14 = .ok (.invokevirtual 172, 3) := by decide +kernel
set_option maxRecDepth 20000 in
theorem dX7_margin_17 : decode cX7_margin 17 = .ok (.aload_n 0, 1) := by decide +kernel
set_option maxRecDepth 20000 in
theorem dX7_margin_18 : decode cX7_margin 18 = .ok (.getfield 28, 3) := by decide +kernel
set_option maxRecDepth 20000 in
theorem dX7_margin_21 : decode cX7_margin 21 = .ok (.invokevirtual 175, 3) := by decide +kernel
set_option maxRecDepth 20000 in
theorem dX7_margin_24 : decode cX7_margin 24 = .ok (.ireturn, 1) := by decide +kernel
def f_X7_margin (N : Nat) (c_board_askers : Int32) (c_board_places : Int32) (c_board_seats : Nat → Int32) (c_board_told : Nat → Int32) (c_board_wishes : Nat → Int32) (c_aimed_askers : Int32) (c_aimed_places : Int32) (c_aimed_seatBits : Int32) (c_aimed_entries : Int32) (c_aimed_best : Nat → Int32) (c_aimed_clipAll : Nat → Int32) (c_aimed_clipToOne : Nat → Int32) (c_aimed_clipToTwo : Nat → Int32) (c_aimed_firstOf : Nat → Int32) (c_aimed_gains : Nat → Int32) (c_aimed_left : Nat → Int32) (c_aimed_next : Nat → Int32) (c_aimed_solvedGains : Nat → Int32) (c_aimed_ways : Nat → Int32) (c_all_slots : Nat → Int32) (a1 : Int32) : Option (Int32 × Int32 × Int32 × Int32 × Int32 × (Nat → Int32) × (Nat → Int32) × (Nat → Int32) × (Nat → Int32) × (Nat → Int32) × (Nat → Int32) × (Nat → Int32) × (Nat → Int32) × (Nat → Int32) × (Nat → Int32) × (Nat → Int32)) :=
  (f_X7_isTold N a1).bind fun r1 =>
  (if r1 = 0 then
    some ((-2 : Int32), c_aimed_askers, c_aimed_places, c_aimed_seatBits, c_aimed_entries, c_aimed_best, c_aimed_clipAll, c_aimed_clipToOne, c_aimed_clipToTwo, c_aimed_firstOf, c_aimed_gains, c_aimed_left, c_aimed_next, c_aimed_solvedGains, c_aimed_ways, c_all_slots)
  else
    (f_X7_solveVotes N c_board_askers c_board_places c_board_seats c_board_told c_board_wishes c_aimed_askers c_aimed_places c_aimed_seatBits c_aimed_entries c_aimed_best c_aimed_clipAll c_aimed_clipToOne c_aimed_clipToTwo c_aimed_firstOf c_aimed_gains c_aimed_left c_aimed_next c_aimed_solvedGains c_aimed_ways c_all_slots a1 1 (-1 : Int32)).bind fun (o4, o5, o6, o7, o8, o9, o10, o11, o12, o13, o14, o15, o16, o17, o18) =>
    (f_X4_bestGain N o8).bind fun r20 =>
    some (r20, o4, o5, o6, o7, o8, o9, o10, o11, o12, o13, o14, o15, o16, o17, o18))
set_option maxHeartbeats 4000000 in
set_option maxRecDepth 100000 in
theorem c_X7_margin {N : Nat} {c_board_askers : Int32} {c_board_places : Int32} {c_board_seats : Nat → Int32} {c_board_told : Nat → Int32} {c_board_wishes : Nat → Int32} {c_aimed_askers : Int32} {c_aimed_places : Int32} {c_aimed_seatBits : Int32} {c_aimed_entries : Int32} {c_aimed_best : Nat → Int32} {c_aimed_clipAll : Nat → Int32} {c_aimed_clipToOne : Nat → Int32} {c_aimed_clipToTwo : Nat → Int32} {c_aimed_firstOf : Nat → Int32} {c_aimed_gains : Nat → Int32} {c_aimed_left : Nat → Int32} {c_aimed_next : Nat → Int32} {c_aimed_solvedGains : Nat → Int32} {c_aimed_ways : Nat → Int32} {c_all_slots : Nat → Int32} {u_above : Int64} {u_below : Int64} {u_board_age : Int32} {a1 : Int32} {res : Int32 × Int32 × Int32 × Int32 × Int32 × (Nat → Int32) × (Nat → Int32) × (Nat → Int32) × (Nat → Int32) × (Nat → Int32) × (Nat → Int32) × (Nat → Int32) × (Nat → Int32) × (Nat → Int32) × (Nat → Int32) × (Nat → Int32)} (hf : f_X7_margin N c_board_askers c_board_places c_board_seats c_board_told c_board_wishes c_aimed_askers c_aimed_places c_aimed_seatBits c_aimed_entries c_aimed_best c_aimed_clipAll c_aimed_clipToOne c_aimed_clipToTwo c_aimed_firstOf c_aimed_gains c_aimed_left c_aimed_next c_aimed_solvedGains c_aimed_ways c_all_slots a1 = some res) : Con mu_X7_margin [.ref 0, .int a1] (w_X7_margin c_aimed_askers c_aimed_places c_aimed_seatBits c_aimed_entries c_board_askers c_board_places c_aimed_best c_aimed_clipAll c_aimed_clipToOne c_aimed_clipToTwo c_aimed_firstOf c_aimed_gains c_aimed_left c_aimed_next c_aimed_solvedGains c_aimed_ways c_all_slots c_board_seats c_board_told c_board_wishes u_above u_below u_board_age) (some (.int res.1)) (w_X7_margin res.2.1 res.2.2.1 res.2.2.2.1 res.2.2.2.2.1 c_board_askers c_board_places res.2.2.2.2.2.1 res.2.2.2.2.2.2.1 res.2.2.2.2.2.2.2.1 res.2.2.2.2.2.2.2.2.1 res.2.2.2.2.2.2.2.2.2.1 res.2.2.2.2.2.2.2.2.2.2.1 res.2.2.2.2.2.2.2.2.2.2.2.1 res.2.2.2.2.2.2.2.2.2.2.2.2.1 res.2.2.2.2.2.2.2.2.2.2.2.2.2.1 res.2.2.2.2.2.2.2.2.2.2.2.2.2.2.1 res.2.2.2.2.2.2.2.2.2.2.2.2.2.2.2 c_board_seats c_board_told c_board_wishes u_above u_below u_board_age) := by
  refine Con.mk (show plainName RX7 = true by decide +kernel) (leb rfl) (fun κ ω A ad => ?_)
  change GG mu_X7_margin κ ω A (QR κ ω A ad (some (.int res.1)) (w_X7_margin res.2.1 res.2.2.1 res.2.2.2.1 res.2.2.2.2.1 c_board_askers c_board_places res.2.2.2.2.2.1 res.2.2.2.2.2.2.1 res.2.2.2.2.2.2.2.1 res.2.2.2.2.2.2.2.2.1 res.2.2.2.2.2.2.2.2.2.1 res.2.2.2.2.2.2.2.2.2.2.1 res.2.2.2.2.2.2.2.2.2.2.2.1 res.2.2.2.2.2.2.2.2.2.2.2.2.1 res.2.2.2.2.2.2.2.2.2.2.2.2.2.1 res.2.2.2.2.2.2.2.2.2.2.2.2.2.2.1 res.2.2.2.2.2.2.2.2.2.2.2.2.2.2.2 c_board_seats c_board_told c_board_wishes u_above u_below u_board_age)) ad 0 0 0 (w_X7_margin c_aimed_askers c_aimed_places c_aimed_seatBits c_aimed_entries c_board_askers c_board_places c_aimed_best c_aimed_clipAll c_aimed_clipToOne c_aimed_clipToTwo c_aimed_firstOf c_aimed_gains c_aimed_left c_aimed_next c_aimed_solvedGains c_aimed_ways c_all_slots c_board_seats c_board_told c_board_wishes u_above u_below u_board_age) [some (.ref 0), some (.int a1)] []
  refine G_iload_n dX7_margin_0 rfl rfl ?_
  obtain ⟨r1, hc2, hf⟩ := ob hf
  refine G_callS (μ2 := mu_X7_isTold) (As := [.int a1]) (w2 := (w_X7_margin c_aimed_askers c_aimed_places c_aimed_seatBits c_aimed_entries c_board_askers c_board_places c_aimed_best c_aimed_clipAll c_aimed_clipToOne c_aimed_clipToTwo c_aimed_firstOf c_aimed_gains c_aimed_left c_aimed_next c_aimed_solvedGains c_aimed_ways c_all_slots c_board_seats c_board_told c_board_wishes u_above u_below u_board_age)) (wc := []) (wc2 := []) (rest := []) (rv := [.int r1]) [] [] [0, 1, 2, 3, 4, 5, 6, 7, 8, 9, 10, 11, 12, 13, 14, 15, 16] [0, 1, 2, 3, 4, 5, 6, 7, 8, 9, 10, 11, 12, 13, 14, 15, 16] (c_X7_isTold hc2) cw_X7_isTold m_X7_135 rfl dX7_margin_1 rfl ⟨leb rfl, leb rfl⟩ ⟨rfl, rfl⟩ (Fit.mk rfl rfl rfl) rfl (leb rfl) (ROsub.nil rfl rfl) rfl ?_
  change GG _ _ _ _ _ _ _ _ _ (w_X7_margin c_aimed_askers c_aimed_places c_aimed_seatBits c_aimed_entries c_board_askers c_board_places c_aimed_best c_aimed_clipAll c_aimed_clipToOne c_aimed_clipToTwo c_aimed_firstOf c_aimed_gains c_aimed_left c_aimed_next c_aimed_solvedGains c_aimed_ways c_all_slots c_board_seats c_board_told c_board_wishes u_above u_below u_board_age) [some (.ref 0), some (.int a1)] [.int r1]
  refine G_if_ne 10 dX7_margin_4 (by decide) (fun h3 => ?_) (fun h3 => ?_)
  · replace hf := ob_f h3 hf
    refine G_aload_n dX7_margin_10 rfl rfl ?_
    refine G_iload_n dX7_margin_11 rfl rfl ?_
    refine G_iconst 1 dX7_margin_12 (by decide) ?_
    refine G_iconst (-1 : Int32) dX7_margin_13 (by decide) ?_
    obtain ⟨⟨o4, o5, o6, o7, o8, o9, o10, o11, o12, o13, o14, o15, o16, o17, o18⟩, hc19, hf⟩ := ob hf
    refine G_callV (μ2 := mu_X7_solveVotes) (As := [.int a1, .int 1, .int (-1 : Int32)]) (w2 := (w_X7_margin o4 o5 o6 o7 c_board_askers c_board_places o8 o9 o10 o11 o12 o13 o14 o15 o16 o17 o18 c_board_seats c_board_told c_board_wishes u_above u_below u_board_age)) (wc := (w_X7_solveVotes c_aimed_askers c_aimed_places c_aimed_seatBits c_aimed_entries c_board_askers c_board_places c_aimed_best c_aimed_clipAll c_aimed_clipToOne c_aimed_clipToTwo c_aimed_firstOf c_aimed_gains c_aimed_left c_aimed_next c_aimed_solvedGains c_aimed_ways c_all_slots c_board_seats c_board_told c_board_wishes u_above u_below u_board_age)) (wc2 := (w_X7_solveVotes o4 o5 o6 o7 c_board_askers c_board_places o8 o9 o10 o11 o12 o13 o14 o15 o16 o17 o18 c_board_seats c_board_told c_board_wishes u_above u_below u_board_age)) (rest := []) (rv := []) [0, 1, 2, 3, 4, 5, 6, 7, 8, 9, 10, 11, 12, 13, 14, 15, 16] [1000, 1001, 1002, 1003, 1004, 1005, 1006, 1007, 1008] [] [0, 1, 2, 3, 4, 5, 6, 7, 8, 9, 10, 11, 12, 13, 14, 15, 16] (c_X7_solveVotes hc19) cw_X7_solveVotes m_X7_172 dX7_margin_14 rfl ⟨leb rfl, leb rfl⟩ ⟨rfl, rfl⟩ rfl ⟨_, rfl, rfl⟩ (Fit.mk rfl rfl rfl) rfl (leb rfl) (ROsub.nil rfl rfl) rfl ?_
    change GG _ _ _ _ _ _ _ _ _ (w_X7_margin o4 o5 o6 o7 c_board_askers c_board_places o8 o9 o10 o11 o12 o13 o14 o15 o16 o17 o18 c_board_seats c_board_told c_board_wishes u_above u_below u_board_age) [some (.ref 0), some (.int a1)] []
    refine G_aload_n dX7_margin_17 rfl rfl ?_
    refine G_get (v := .ref 1) F_X7_28 dX7_margin_18 rfl rfl ?_
    obtain ⟨r20, hc21, hf⟩ := ob hf
    refine G_callV (μ2 := mu_X4_bestGain) (As := []) (w2 := (w_X7_margin o4 o5 o6 o7 c_board_askers c_board_places o8 o9 o10 o11 o12 o13 o14 o15 o16 o17 o18 c_board_seats c_board_told c_board_wishes u_above u_below u_board_age)) (wc := (w_X4_bestGain o8 o4 o5 o6 o7)) (wc2 := (w_X4_bestGain o8 o4 o5 o6 o7)) (rest := []) (rv := [.int r20]) [1, 3] [2, 8, 11, 9, 12, 10, 7, 13, 4, 5, 6] [0, 2, 4, 5, 6, 7, 8, 9, 10, 11, 12, 13, 14, 15, 16] [0, 15, 1, 16, 2, 3, 4, 5, 6, 7, 8, 9, 10, 11, 12, 13, 14] (c_X4_bestGain hc21) cw_X4_bestGain m_X7_175 dX7_margin_21 rfl ⟨leb rfl, leb rfl⟩ ⟨rfl, rfl⟩ rfl ⟨_, rfl, rfl⟩ (Fit.mk rfl rfl rfl) rfl (leb rfl) (ROsub.nil rfl rfl) rfl ?_
    change GG _ _ _ _ _ _ _ _ _ (w_X7_margin o4 o5 o6 o7 c_board_askers c_board_places o8 o9 o10 o11 o12 o13 o14 o15 o16 o17 o18 c_board_seats c_board_told c_board_wishes u_above u_below u_board_age) [some (.ref 0), some (.int a1)] [.int r20]
    obtain rfl := os hf
    exact G_ireturn dX7_margin_24 rfl
  · replace hf := ob_t h3 hf
    refine G_bipush (-2 : Int32) dX7_margin_7 (by decide) ?_
    obtain rfl := os hf
    exact G_ireturn dX7_margin_9 rfl
set_option maxRecDepth 20000 in
theorem dX7_beater_0 : decode cX7_beater 0 = .ok (.iload_n 1, 1) := by decide +kernel
set_option maxRecDepth 20000 in
theorem dX7_beater_1 : decode cX7_beater 1 = .ok (.invokestatic 135, 3) := by decide +kernel
set_option maxRecDepth 20000 in
theorem dX7_beater_4 : decode cX7_beater 4 = .ok (.ifCond .eq 14, 3) := by decide +kernel
set_option maxRecDepth 20000 in
theorem dX7_beater_7 : decode cX7_beater 7 = .ok (.aload_n 0, 1) := by decide +kernel
set_option maxRecDepth 20000 in
theorem dX7_beater_8 : decode cX7_beater 8 = .ok (.getfield 10, 3) := by decide +kernel
set_option maxRecDepth 20000 in
theorem dX7_beater_11 : decode cX7_beater 11 = .ok (.iload_n 2, 1) := by decide +kernel
set_option maxRecDepth 20000 in
theorem dX7_beater_12 : decode cX7_beater 12 = .ok (.invokevirtual 109, 3) := by decide +kernel
set_option maxRecDepth 20000 in
theorem dX7_beater_15 : decode cX7_beater 15 = .ok (.ifCond .ne 6, 3) := by decide +kernel
set_option maxRecDepth 20000 in
theorem dX7_beater_18 : decode cX7_beater 18 = .ok (.bipush (-2), 2) := by decide +kernel
set_option maxRecDepth 20000 in
theorem dX7_beater_20 : decode cX7_beater 20 = .ok (.ireturn, 1) := by decide +kernel
set_option maxRecDepth 20000 in
theorem dX7_beater_21 : decode cX7_beater 21 = .ok (.aload_n 0, 1) := by decide +kernel
set_option maxRecDepth 20000 in
theorem dX7_beater_22 : decode cX7_beater 22 = .ok (.iload_n 1, 1) := by decide +kernel
set_option maxRecDepth 20000 in
theorem dX7_beater_23 : decode cX7_beater 23 = .ok (.iconst 1, 1) := by decide +kernel
set_option maxRecDepth 20000 in
theorem dX7_beater_24 : decode cX7_beater 24 = .ok (.iconst (-1), 1) := by decide +kernel
set_option maxRecDepth 20000 in
theorem dX7_beater_25 : decode cX7_beater 25 = .ok (.invokevirtual 172, 3) := by decide +kernel
set_option maxRecDepth 20000 in
theorem dX7_beater_28 : decode cX7_beater 28 = .ok (.aload_n 0, 1) := by decide +kernel
set_option maxRecDepth 20000 in
theorem dX7_beater_29 : decode cX7_beater 29 = .ok (.getfield 28, 3) := by decide +kernel
set_option maxRecDepth 20000 in
theorem dX7_beater_32 : decode cX7_beater 32 = .ok (.iconst 0, 1) := by decide +kernel
set_option maxRecDepth 20000 in
theorem dX7_beater_33 : decode cX7_beater 33 = .ok (.aload_n 0, 1) := by decide +kernel
set_option maxRecDepth 20000 in
theorem dX7_beater_34 : decode cX7_beater 34 = .ok (.getfield 68, 3) := by decide +kernel
set_option maxRecDepth 20000 in
theorem dX7_beater_37 : decode cX7_beater 37 = .ok (.invokevirtual 131, 3) := by decide +kernel
set_option maxRecDepth 20000 in
theorem dX7_beater_40 : decode cX7_beater 40 = .ok (.aload_n 0, 1) := by decide +kernel
set_option maxRecDepth 20000 in
theorem dX7_beater_41 : decode cX7_beater 41 = .ok (.getfield 68, 3) := by decide +kernel
set_option maxRecDepth 20000 in
theorem dX7_beater_44 : decode cX7_beater 44 = .ok (.iload_n 2, 1) := by decide +kernel
set_option maxRecDepth 20000 in
theorem dX7_beater_45 : decode cX7_beater 45 = .ok (.iaload, 1) := by decide +kernel
set_option maxRecDepth 20000 in
theorem dX7_beater_46 : decode cX7_beater 46 = .ok (.ireturn, 1) := by decide +kernel
def f_X7_beater (N : Nat) (c_board_askers : Int32) (c_board_places : Int32) (c_board_seats : Nat → Int32) (c_board_told : Nat → Int32) (c_board_wishes : Nat → Int32) (c_aimed_askers : Int32) (c_aimed_places : Int32) (c_aimed_seatBits : Int32) (c_aimed_entries : Int32) (c_row : Nat → Int32) (c_aimed_best : Nat → Int32) (c_aimed_clipAll : Nat → Int32) (c_aimed_clipToOne : Nat → Int32) (c_aimed_clipToTwo : Nat → Int32) (c_aimed_firstOf : Nat → Int32) (c_aimed_gains : Nat → Int32) (c_aimed_left : Nat → Int32) (c_aimed_next : Nat → Int32) (c_aimed_solvedGains : Nat → Int32) (c_aimed_ways : Nat → Int32) (c_all_slots : Nat → Int32) (a1 : Int32) (a2 : Int32) : Option (Int32 × Int32 × Int32 × Int32 × Int32 × (Nat → Int32) × (Nat → Int32) × (Nat → Int32) × (Nat → Int32) × (Nat → Int32) × (Nat → Int32) × (Nat → Int32) × (Nat → Int32) × (Nat → Int32) × (Nat → Int32) × (Nat → Int32) × (Nat → Int32)) :=
  (f_X7_isTold N a1).bind fun r1 =>
  (if r1 = 0 then
    some ((-2 : Int32), c_aimed_askers, c_aimed_places, c_aimed_seatBits, c_aimed_entries, c_row, c_aimed_best, c_aimed_clipAll, c_aimed_clipToOne, c_aimed_clipToTwo, c_aimed_firstOf, c_aimed_gains, c_aimed_left, c_aimed_next, c_aimed_solvedGains, c_aimed_ways, c_all_slots)
  else
    (f_X0_isAsker N c_board_askers a2).bind fun r4 =>
    (if r4 = 0 then
      some ((-2 : Int32), c_aimed_askers, c_aimed_places, c_aimed_seatBits, c_aimed_entries, c_row, c_aimed_best, c_aimed_clipAll, c_aimed_clipToOne, c_aimed_clipToTwo, c_aimed_firstOf, c_aimed_gains, c_aimed_left, c_aimed_next, c_aimed_solvedGains, c_aimed_ways, c_all_slots)
    else
      (f_X7_solveVotes N c_board_askers c_board_places c_board_seats c_board_told c_board_wishes c_aimed_askers c_aimed_places c_aimed_seatBits c_aimed_entries c_aimed_best c_aimed_clipAll c_aimed_clipToOne c_aimed_clipToTwo c_aimed_firstOf c_aimed_gains c_aimed_left c_aimed_next c_aimed_solvedGains c_aimed_ways c_all_slots a1 1 (-1 : Int32)).bind fun (o7, o8, o9, o10, o11, o12, o13, o14, o15, o16, o17, o18, o19, o20, o21) =>
      (f_X4_pathTo N o7 o8 o11 o18 o19 o20 c_row 0).bind fun o23 =>
      (rdI 8 o23 a2).bind fun t25 =>
      some (t25, o7, o8, o9, o10, o23, o11, o12, o13, o14, o15, o16, o17, o18, o19, o20, o21)))
set_option maxHeartbeats 4000000 in
set_option maxRecDepth 100000 in
theorem c_X7_beater {N : Nat} {c_board_askers : Int32} {c_board_places : Int32} {c_board_seats : Nat → Int32} {c_board_told : Nat → Int32} {c_board_wishes : Nat → Int32} {c_aimed_askers : Int32} {c_aimed_places : Int32} {c_aimed_seatBits : Int32} {c_aimed_entries : Int32} {c_row : Nat → Int32} {c_aimed_best : Nat → Int32} {c_aimed_clipAll : Nat → Int32} {c_aimed_clipToOne : Nat → Int32} {c_aimed_clipToTwo : Nat → Int32} {c_aimed_firstOf : Nat → Int32} {c_aimed_gains : Nat → Int32} {c_aimed_left : Nat → Int32} {c_aimed_next : Nat → Int32} {c_aimed_solvedGains : Nat → Int32} {c_aimed_ways : Nat → Int32} {c_all_slots : Nat → Int32} {u_above : Int64} {u_below : Int64} {u_board_age : Int32} {a1 : Int32} {a2 : Int32} {res : Int32 × Int32 × Int32 × Int32 × Int32 × (Nat → Int32) × (Nat → Int32) × (Nat → Int32) × (Nat → Int32) × (Nat → Int32) × (Nat → Int32) × (Nat → Int32) × (Nat → Int32) × (Nat → Int32) × (Nat → Int32) × (Nat → Int32) × (Nat → Int32)} (hf : f_X7_beater N c_board_askers c_board_places c_board_seats c_board_told c_board_wishes c_aimed_askers c_aimed_places c_aimed_seatBits c_aimed_entries c_row c_aimed_best c_aimed_clipAll c_aimed_clipToOne c_aimed_clipToTwo c_aimed_firstOf c_aimed_gains c_aimed_left c_aimed_next c_aimed_solvedGains c_aimed_ways c_all_slots a1 a2 = some res) : Con mu_X7_beater [.ref 0, .int a1, .int a2] (w_X7_beater c_aimed_askers c_aimed_places c_aimed_seatBits c_aimed_entries c_board_askers c_board_places c_row c_aimed_best c_aimed_clipAll c_aimed_clipToOne c_aimed_clipToTwo c_aimed_firstOf c_aimed_gains c_aimed_left c_aimed_next c_aimed_solvedGains c_aimed_ways c_all_slots c_board_seats c_board_told c_board_wishes u_above u_below u_board_age) (some (.int res.1)) (w_X7_beater res.2.1 res.2.2.1 res.2.2.2.1 res.2.2.2.2.1 c_board_askers c_board_places res.2.2.2.2.2.1 res.2.2.2.2.2.2.1 res.2.2.2.2.2.2.2.1 res.2.2.2.2.2.2.2.2.1 res.2.2.2.2.2.2.2.2.2.1 res.2.2.2.2.2.2.2.2.2.2.1 res.2.2.2.2.2.2.2.2.2.2.2.1 res.2.2.2.2.2.2.2.2.2.2.2.2.1 res.2.2.2.2.2.2.2.2.2.2.2.2.2.1 res.2.2.2.2.2.2.2.2.2.2.2.2.2.2.1 res.2.2.2.2.2.2.2.2.2.2.2.2.2.2.2.1 res.2.2.2.2.2.2.2.2.2.2.2.2.2.2.2.2 c_board_seats c_board_told c_board_wishes u_above u_below u_board_age) := by
  refine Con.mk (show plainName RX7 = true by decide +kernel) (leb rfl) (fun κ ω A ad => ?_)
  change GG mu_X7_beater κ ω A (QR κ ω A ad (some (.int res.1)) (w_X7_beater res.2.1 res.2.2.1 res.2.2.2.1 res.2.2.2.2.1 c_board_askers c_board_places res.2.2.2.2.2.1 res.2.2.2.2.2.2.1 res.2.2.2.2.2.2.2.1 res.2.2.2.2.2.2.2.2.1 res.2.2.2.2.2.2.2.2.2.1 res.2.2.2.2.2.2.2.2.2.2.1 res.2.2.2.2.2.2.2.2.2.2.2.1 res.2.2.2.2.2.2.2.2.2.2.2.2.1 res.2.2.2.2.2.2.2.2.2.2.2.2.2.1 res.2.2.2.2.2.2.2.2.2.2.2.2.2.2.1 res.2.2.2.2.2.2.2.2.2.2.2.2.2.2.2.1 res.2.2.2.2.2.2.2.2.2.2.2.2.2.2.2.2 c_board_seats c_board_told c_board_wishes u_above u_below u_board_age)) ad 0 0 0 (w_X7_beater c_aimed_askers c_aimed_places c_aimed_seatBits c_aimed_entries c_board_askers c_board_places c_row c_aimed_best c_aimed_clipAll c_aimed_clipToOne c_aimed_clipToTwo c_aimed_firstOf c_aimed_gains c_aimed_left c_aimed_next c_aimed_solvedGains c_aimed_ways c_all_slots c_board_seats c_board_told c_board_wishes u_above u_below u_board_age) [some (.ref 0), some (.int a1), some (.int a2)] []
  refine G_iload_n dX7_beater_0 rfl rfl ?_
  obtain ⟨r1, hc2, hf⟩ := ob hf
  refine G_callS (μ2 := mu_X7_isTold) (As := [.int a1]) (w2 := (w_X7_beater c_aimed_askers c_aimed_places c_aimed_seatBits c_aimed_entries c_board_askers c_board_places c_row c_aimed_best c_aimed_clipAll c_aimed_clipToOne c_aimed_clipToTwo c_aimed_firstOf c_aimed_gains c_aimed_left c_aimed_next c_aimed_solvedGains c_aimed_ways c_all_slots c_board_seats c_board_told c_board_wishes u_above u_below u_board_age)) (wc := []) (wc2 := []) (rest := []) (rv := [.int r1]) [] [] [0, 1, 2, 3, 4, 5, 6, 7, 8, 9, 10, 11, 12, 13, 14, 15, 16, 17] [0, 1, 2, 3, 4, 5, 6, 7, 8, 9, 10, 11, 12, 13, 14, 15, 16, 17] (c_X7_isTold hc2) cw_X7_isTold m_X7_135 rfl dX7_beater_1 rfl ⟨leb rfl, leb rfl⟩ ⟨rfl, rfl⟩ (Fit.mk rfl rfl rfl) rfl (leb rfl) (ROsub.nil rfl rfl) rfl ?_
  change GG _ _ _ _ _ _ _ _ _ (w_X7_beater c_aimed_askers c_aimed_places c_aimed_seatBits c_aimed_entries c_board_askers c_board_places c_row c_aimed_best c_aimed_clipAll c_aimed_clipToOne c_aimed_clipToTwo c_aimed_firstOf c_aimed_gains c_aimed_left c_aimed_next c_aimed_solvedGains c_aimed_ways c_all_slots c_board_seats c_board_told c_board_wishes u_above u_below u_board_age) [some (.ref 0), some (.int a1), some (.int a2)] [.int r1]
  refine G_if_eq 18 dX7_beater_4 (by decide) (fun h3 => ?_) (fun h3 => ?_)
  · replace hf := ob_t h3 hf
    refine G_bipush (-2 : Int32) dX7_beater_18 (by decide) ?_
    obtain rfl := os hf
    exact G_ireturn dX7_beater_20 rfl
  · replace hf := ob_f h3 hf
    refine G_aload_n dX7_beater_7 rfl rfl ?_
    refine G_get (v := .ref 2) F_X7_10 dX7_beater_8 rfl rfl ?_
    refine G_iload_n dX7_beater_11 rfl rfl ?_
    obtain ⟨r4, hc5, hf⟩ := ob hf
    refine G_callV (μ2 := mu_X0_isAsker) (As := [.int a2]) (w2 := (w_X7_beater c_aimed_askers c_aimed_places c_aimed_seatBits c_aimed_entries c_board_askers c_board_places c_row c_aimed_best c_aimed_clipAll c_aimed_clipToOne c_aimed_clipToTwo c_aimed_firstOf c_aimed_gains c_aimed_left c_aimed_next c_aimed_solvedGains c_aimed_ways c_all_slots c_board_seats c_board_told c_board_wishes u_above u_below u_board_age)) (wc := (w_X0_isAsker c_board_askers c_board_places u_board_age)) (wc2 := (w_X0_isAsker c_board_askers c_board_places u_board_age)) (rest := []) (rv := [.int r4]) [2] [15, 17, 1007, 16] [0, 1, 3, 4, 5, 6, 7, 8, 9, 10, 11, 12, 13, 14, 15, 16, 17] [0, 1, 17, 2, 3, 4, 5, 6, 7, 8, 9, 10, 11, 12, 13, 14, 15, 16] (c_X0_isAsker hc5) cw_X0_isAsker m_X7_109 dX7_beater_12 rfl ⟨leb rfl, leb rfl⟩ ⟨rfl, rfl⟩ rfl ⟨_, rfl, rfl⟩ (Fit.mk rfl rfl rfl) rfl (leb rfl) (ROsub.nil rfl rfl) rfl ?_
    change GG _ _ _ _ _ _ _ _ _ (w_X7_beater c_aimed_askers c_aimed_places c_aimed_seatBits c_aimed_entries c_board_askers c_board_places c_row c_aimed_best c_aimed_clipAll c_aimed_clipToOne c_aimed_clipToTwo c_aimed_firstOf c_aimed_gains c_aimed_left c_aimed_next c_aimed_solvedGains c_aimed_ways c_all_slots c_board_seats c_board_told c_board_wishes u_above u_below u_board_age) [some (.ref 0), some (.int a1), some (.int a2)] [.int r4]
    refine G_if_ne 21 dX7_beater_15 (by decide) (fun h6 => ?_) (fun h6 => ?_)
    · replace hf := ob_f h6 hf
      refine G_aload_n dX7_beater_21 rfl rfl ?_
      refine G_iload_n dX7_beater_22 rfl rfl ?_
      refine G_iconst 1 dX7_beater_23 (by decide) ?_
      refine G_iconst (-1 : Int32) dX7_beater_24 (by decide) ?_
      obtain ⟨⟨o7, o8, o9, o10, o11, o12, o13, o14, o15, o16, o17, o18, o19, o20, o21⟩, hc22, hf⟩ := ob hf
      refine G_callV (μ2 := mu_X7_solveVotes) (As := [.int a1, .int 1, .int (-1 : Int32)]) (w2 := (w_X7_beater o7 o8 o9 o10 c_board_askers c_board_places c_row o11 o12 o13 o14 o15 o16 o17 o18 o19 o20 o21 c_board_seats c_board_told c_board_wishes u_above u_below u_board_age)) (wc := (w_X7_solveVotes c_aimed_askers c_aimed_places c_aimed_seatBits c_aimed_entries c_board_askers c_board_places c_aimed_best c_aimed_clipAll c_aimed_clipToOne c_aimed_clipToTwo c_aimed_firstOf c_aimed_gains c_aimed_left c_aimed_next c_aimed_solvedGains c_aimed_ways c_all_slots c_board_seats c_board_told c_board_wishes u_above u_below u_board_age)) (wc2 := (w_X7_solveVotes o7 o8 o9 o10 c_board_askers c_board_places o11 o12 o13 o14 o15 o16 o17 o18 o19 o20 o21 c_board_seats c_board_told c_board_wishes u_above u_below u_board_age)) (rest := []) (rv := []) [0, 1, 2, 4, 5, 6, 7, 8, 9, 10, 11, 12, 13, 14, 15, 16, 17] [1000, 1001, 1002, 1003, 1004, 1005, 1006, 3, 1007] [3] [1, 2, 3, 0, 4, 5, 6, 7, 8, 9, 10, 11, 12, 13, 14, 15, 16, 17] (c_X7_solveVotes hc22) cw_X7_solveVotes m_X7_172 dX7_beater_25 rfl ⟨leb rfl, leb rfl⟩ ⟨rfl, rfl⟩ rfl ⟨_, rfl, rfl⟩ (Fit.mk rfl rfl rfl) rfl (leb rfl) (ROsub.nil rfl rfl) rfl ?_
      change GG _ _ _ _ _ _ _ _ _ (w_X7_beater o7 o8 o9 o10 c_board_askers c_board_places c_row o11 o12 o13 o14 o15 o16 o17 o18 o19 o20 o21 c_board_seats c_board_told c_board_wishes u_above u_below u_board_age) [some (.ref 0), some (.int a1), some (.int a2)] []
      refine G_aload_n dX7_beater_28 rfl rfl ?_
      refine G_get (v := .ref 1) F_X7_28 dX7_beater_29 rfl rfl ?_
      refine G_iconst 0 dX7_beater_32 (by decide) ?_
      refine G_aload_n dX7_beater_33 rfl rfl ?_
      refine G_get (v := .ref 3) F_X7_68 dX7_beater_34 rfl rfl ?_
      obtain ⟨o23, hc24, hf⟩ := ob hf
      refine G_callV (μ2 := mu_X4_pathTo) (As := [.int 0, .ref 1]) (w2 := (w_X7_beater o7 o8 o9 o10 c_board_askers c_board_places o23 o11 o12 o13 o14 o15 o16 o17 o18 o19 o20 o21 c_board_seats c_board_told c_board_wishes u_above u_below u_board_age)) (wc := (w_X4_pathTo o7 o8 c_row o11 o18 o19 o20 o9 o10)) (wc2 := (w_X4_pathTo o7 o8 o23 o11 o18 o19 o20 o9 o10)) (rest := []) (rv := []) [1, 3, 4, 11, 12, 13] [2, 9, 10, 8, 14, 5, 6, 7] [0, 2, 5, 6, 7, 8, 9, 10, 14, 15, 16, 17] [0, 12, 1, 13, 14, 2, 3, 4, 5, 6, 7, 15, 16, 17, 8, 9, 10, 11] (c_X4_pathTo hc24) cw_X4_pathTo m_X7_131 dX7_beater_37 rfl ⟨leb rfl, leb rfl⟩ ⟨rfl, rfl⟩ rfl ⟨_, rfl, rfl⟩ (Fit.mk rfl rfl rfl) rfl (leb rfl) (ROsub.nil rfl rfl) rfl ?_
      change GG _ _ _ _ _ _ _ _ _ (w_X7_beater o7 o8 o9 o10 c_board_askers c_board_places o23 o11 o12 o13 o14 o15 o16 o17 o18 o19 o20 o21 c_board_seats c_board_told c_board_wishes u_above u_below u_board_age) [some (.ref 0), some (.int a1), some (.int a2)] []
      refine G_aload_n dX7_beater_40 rfl rfl ?_
      refine G_get (v := .ref 3) F_X7_68 dX7_beater_41 rfl rfl ?_
      refine G_iload_n dX7_beater_44 rfl rfl ?_
      obtain ⟨t25, ht25, hf⟩ := ob hf
      refine G_iald dX7_beater_45 rfl ht25 ?_
      obtain rfl := os hf
      exact G_ireturn dX7_beater_46 rfl
    · replace hf := ob_t h6 hf
      refine G_bipush (-2 : Int32) dX7_beater_18 (by decide) ?_
      obtain rfl := os hf
      exact G_ireturn dX7_beater_20 rfl
set_option maxRecDepth 20000 in
theorem dX7_canAnyRise_0 : decode cX7_canAnyRise 0 = .ok (.iconst 0, 1) := by decide +kernel
set_option maxRecDepth 20000 in
theorem dX7_canAnyRise_1 : decode cX7_canAnyRise 1 = .ok (.istore_n 2, 1) := by decide +kernel
set_option maxRecDepth 20000 in
theorem dX7_canAnyRise_2 : decode cX7_canAnyRise 2 = .ok (.iload_n 2, 1) := by decide +kernel
set_option maxRecDepth 20000 in
theorem dX7_canAnyRise_3 : decode cX7_canAnyRise 3 = .ok (.aload_n 0, 1) := by decide +kernel
set_option maxRecDepth 20000 in
theorem dX7_canAnyRise_4 : decode cX7_canAnyRise 4 = .ok (.getfield 10, 3) := by decide +kernel
set_option maxRecDepth 20000 in
theorem dX7_canAnyRise_7 : decode cX7_canAnyRise 7 = .ok (.getfield 79, 3) := by decide +kernel
set_option maxRecDepth 20000 in
theorem dX7_canAnyRise_10 : decode cX7_canAnyRise 10 = .ok (.if_icmp .ge 31, 3) := by decide +kernel
set_option maxRecDepth 20000 in
theorem dX7_canAnyRise_13 : decode cX7_canAnyRise 13 = .ok (.aload_n 0, 1) := by decide +kernel
set_option maxRecDepth 20000 in
theorem dX7_canAnyRise_14 : decode cX7_canAnyRise 14 = .ok (.getfield 10, 3) := by decide +kernel
set_option maxRecDepth 20000 in
theorem dX7_canAnyRise_17 : decode cX7_canAnyRise 17 = .ok (.iload_n 2, 1) := by decide +kernel
set_option maxRecDepth 20000 in
theorem dX7_canAnyRise_18 : decode cX7_canAnyRise 18 = .ok (.invokevirtual 299, 3) := by decide +kernel
set_option maxRecDepth 20000 in
theorem dX7_canAnyRise_21 : decode cX7_canAnyRise 21 = .ok (.aload_n 0, 1) := by decide +kernel
set_option maxRecDepth 20000 in
theorem dX7_canAnyRise_22 : decode cX7_canAnyRise 22 = .ok (.getfield 10, 3) := by decide +kernel
set_option maxRecDepth 20000 in
theorem dX7_canAnyRise_25 : decode cX7_canAnyRise 25 = .ok (.iload_n 1, 1) := by decide +kernel
set_option maxRecDepth 20000 in
theorem dX7_canAnyRise_26 : decode cX7_canAnyRise 26 = .ok (.iload_n 2, 1) := by decide +kernel
set_option maxRecDepth 20000 in
theorem dX7_canAnyRise_27 : decode cX7_canAnyRise 27 = .ok (.invokevirtual 163, 3) := by decide +kernel
set_option maxRecDepth 20000 in
theorem dX7_canAnyRise_30 : decode cX7_canAnyRise 30 = .ok (.if_icmp .ge 5, 3) := by decide +kernel
set_option maxRecDepth 20000 in
theorem dX7_canAnyRise_33 : decode cX7_canAnyRise 33 = .ok (.iconst 1, 1) := by decide +kernel
set_option maxRecDepth 20000 in
theorem dX7_canAnyRise_34 : decode cX7_canAnyRise 34 = .ok (.ireturn, 1) := by decide +kernel
set_option maxRecDepth 20000 in
theorem dX7_canAnyRise_35 : decode cX7_canAnyRise 35 = .ok (.iinc 2 1, 3) := by decide +kernel
set_option maxRecDepth 20000 in
theorem dX7_canAnyRise_38 : decode cX7_canAnyRise 38 = .ok (.goto (-36), 3) := by decide +kernel
set_option maxRecDepth 20000 in
theorem dX7_canAnyRise_41 : decode cX7_canAnyRise 41 = .ok (.iconst 0, 1) := by decide +kernel
set_option maxRecDepth 20000 in
theorem dX7_canAnyRise_42 : decode cX7_canAnyRise 42 = .ok (.ireturn, 1) := by decide +kernel
def f_X7_canAnyRise_2 (N : Nat) (c_board_askers : Int32) (c_board_likes : Nat → Int32) (c_board_told : Nat → Int32) (c_board_wishes : Nat → Int32) : Nat → Int32 → Int32 → Option (Int32)
  | 0, _, _ => none
  | n + 1, v1, v2 =>
    (if c_board_askers ≤ v2 then
      some 0
    else
      (f_X0_firstWorth N c_board_likes c_board_wishes v2).bind fun r2 =>
      (f_X0_toldWorth N c_board_told c_board_wishes v1 v2).bind fun r4 =>
      (if r4 ≤ r2 then
        f_X7_canAnyRise_2 N c_board_askers c_board_likes c_board_told c_board_wishes n v1 (v2 + 1)
      else
        some 1))
set_option maxHeartbeats 4000000 in
set_option maxRecDepth 100000 in
theorem g_X7_canAnyRise_2 {κ : KC} {ω : KW} {A : Nat → Prop} {ad : Nat → Nat} {u_above : Int64} {u_below : Int64} {u_board_places : Int32} {u_board_age : Int32} {N : Nat} {c_board_askers : Int32} {c_board_likes : Nat → Int32} {c_board_told : Nat → Int32} {c_board_wishes : Nat → Int32}  {res : Int32} : ∀ (n : Nat) {v1 : Int32} {v2 : Int32}, f_X7_canAnyRise_2 N c_board_askers c_board_likes c_board_told c_board_wishes n v1 v2 = some res → GG mu_X7_canAnyRise κ ω A (QR κ ω A ad (some (.int res)) (w_X7_canAnyRise c_board_askers c_board_likes c_board_told c_board_wishes u_above u_below u_board_places u_board_age)) ad 0 0 2 (w_X7_canAnyRise c_board_askers c_board_likes c_board_told c_board_wishes u_above u_below u_board_places u_board_age) [some (.ref 0), some (.int v1), some (.int v2)] [] := by
  intro n
  induction n with
  | zero => intro v1 v2 hf; exact ob_0 hf
  | succ n ih =>
    intro v1 v2 hf
    refine G_iload_n dX7_canAnyRise_2 rfl rfl ?_
    refine G_aload_n dX7_canAnyRise_3 rfl rfl ?_
    refine G_get (v := .ref 1) F_X7_10 dX7_canAnyRise_4 rfl rfl ?_
    refine G_get (v := .int c_board_askers) F_X7_79 dX7_canAnyRise_7 rfl rfl ?_
    refine G_icmp_ge 41 dX7_canAnyRise_10 (by decide) (fun h1 => ?_) (fun h1 => ?_)
    · replace hf := ob_t h1 hf
      refine G_iconst 0 dX7_canAnyRise_41 (by decide) ?_
      obtain rfl := os hf
      exact G_zreturn dX7_canAnyRise_42 rfl z_0
    · replace hf := ob_f h1 hf
      refine G_aload_n dX7_canAnyRise_13 rfl rfl ?_
      refine G_get (v := .ref 1) F_X7_10 dX7_canAnyRise_14 rfl rfl ?_
      refine G_iload_n dX7_canAnyRise_17 rfl rfl ?_
      obtain ⟨r2, hc3, hf⟩ := ob hf
      refine G_callV (μ2 := mu_X0_firstWorth) (As := [.int v2]) (w2 := (w_X7_canAnyRise c_board_askers c_board_likes c_board_told c_board_wishes u_above u_below u_board_places u_board_age)) (wc := (w_X0_firstWorth c_board_likes c_board_wishes c_board_askers u_board_places u_board_age)) (wc2 := (w_X0_firstWorth c_board_likes c_board_wishes c_board_askers u_board_places u_board_age)) (rest := []) (rv := [.int r2]) [1, 2, 4] [1009, 3] [0, 3] [0, 2, 3, 1, 4] (c_X0_firstWorth hc3) cw_X0_firstWorth m_X7_299 dX7_canAnyRise_18 rfl ⟨leb rfl, leb rfl⟩ ⟨rfl, rfl⟩ rfl ⟨_, rfl, rfl⟩ (Fit.mk rfl rfl rfl) rfl (leb rfl) (ROsub.nil rfl rfl) rfl ?_
      change GG _ _ _ _ _ _ _ _ _ (w_X7_canAnyRise c_board_askers c_board_likes c_board_told c_board_wishes u_above u_below u_board_places u_board_age) [some (.ref 0), some (.int v1), some (.int v2)] [.int r2]
      refine G_aload_n dX7_canAnyRise_21 rfl rfl ?_
      refine G_get (v := .ref 1) F_X7_10 dX7_canAnyRise_22 rfl rfl ?_
      refine G_iload_n dX7_canAnyRise_25 rfl rfl ?_
      refine G_iload_n dX7_canAnyRise_26 rfl rfl ?_
      obtain ⟨r4, hc5, hf⟩ := ob hf
      refine G_callV (μ2 := mu_X0_toldWorth) (As := [.int v1, .int v2]) (w2 := (w_X7_canAnyRise c_board_askers c_board_likes c_board_told c_board_wishes u_above u_below u_board_places u_board_age)) (wc := (w_X0_toldWorth c_board_told c_board_wishes c_board_askers u_board_places u_board_age)) (wc2 := (w_X0_toldWorth c_board_told c_board_wishes c_board_askers u_board_places u_board_age)) (rest := [.int r2]) (rv := [.int r4]) [1, 3, 4] [1009, 2] [0, 2] [0, 2, 1, 3, 4] (c_X0_toldWorth hc5) cw_X0_toldWorth m_X7_163 dX7_canAnyRise_27 rfl ⟨leb rfl, leb rfl⟩ ⟨rfl, rfl⟩ rfl ⟨_, rfl, rfl⟩ (Fit.mk rfl rfl rfl) rfl (leb rfl) (ROsub.nil rfl rfl) rfl ?_
      change GG _ _ _ _ _ _ _ _ _ (w_X7_canAnyRise c_board_askers c_board_likes c_board_told c_board_wishes u_above u_below u_board_places u_board_age) [some (.ref 0), some (.int v1), some (.int v2)] [.int r4, .int r2]
      refine G_icmp_ge 35 dX7_canAnyRise_30 (by decide) (fun h6 => ?_) (fun h6 => ?_)
      · replace hf := ob_t h6 hf
        refine G_iinc 1 dX7_canAnyRise_35 (by decide) rfl (ltb rfl) ?_
        change GG _ _ _ _ _ _ _ _ _ _ [some (.ref 0), some (.int v1), some (.int (v2 + 1))] _
        refine G_goto 2 dX7_canAnyRise_38 (by decide) ?_
        exact ih hf
      · replace hf := ob_f h6 hf
        refine G_iconst 1 dX7_canAnyRise_33 (by decide) ?_
        obtain rfl := os hf
        exact G_zreturn dX7_canAnyRise_34 rfl z_1
def f_X7_canAnyRise (N : Nat) (c_board_askers : Int32) (c_board_likes : Nat → Int32) (c_board_told : Nat → Int32) (c_board_wishes : Nat → Int32) (a1 : Int32) : Option (Int32) :=
  f_X7_canAnyRise_2 N c_board_askers c_board_likes c_board_told c_board_wishes N a1 0
set_option maxHeartbeats 4000000 in
set_option maxRecDepth 100000 in
theorem c_X7_canAnyRise {N : Nat} {c_board_askers : Int32} {c_board_likes : Nat → Int32} {c_board_told : Nat → Int32} {c_board_wishes : Nat → Int32}  {u_above : Int64} {u_below : Int64} {u_board_places : Int32} {u_board_age : Int32} {a1 : Int32} {res : Int32} (hf : f_X7_canAnyRise N c_board_askers c_board_likes c_board_told c_board_wishes a1 = some res) : Con mu_X7_canAnyRise [.ref 0, .int a1] (w_X7_canAnyRise c_board_askers c_board_likes c_board_told c_board_wishes u_above u_below u_board_places u_board_age) (some (.int res)) (w_X7_canAnyRise c_board_askers c_board_likes c_board_told c_board_wishes u_above u_below u_board_places u_board_age) := by
  refine Con.mk (show plainName RX7 = true by decide +kernel) (leb rfl) (fun κ ω A ad => ?_)
  change GG mu_X7_canAnyRise κ ω A (QR κ ω A ad (some (.int res)) (w_X7_canAnyRise c_board_askers c_board_likes c_board_told c_board_wishes u_above u_below u_board_places u_board_age)) ad 0 0 0 (w_X7_canAnyRise c_board_askers c_board_likes c_board_told c_board_wishes u_above u_below u_board_places u_board_age) [some (.ref 0), some (.int a1), none] []
  refine G_iconst 0 dX7_canAnyRise_0 (by decide) ?_
  refine G_istore_n dX7_canAnyRise_1 rfl (ltb rfl) ?_
  change GG _ _ _ _ _ _ _ _ _ _ [some (.ref 0), some (.int a1), some (.int 0)] _
  exact g_X7_canAnyRise_2 N hf
set_option maxRecDepth 20000 in
theorem dX7_tellFraction_0 : decode cX7_tellFraction 0 = .ok (.lload_n 1, 1) := by decide +kernel
set_option maxRecDepth 20000 in
theorem dX7_tellFraction_1 : decode cX7_tellFraction 1 = .ok (.lstore 5, 2) := by decide +kernel
set_option maxRecDepth 20000 in
theorem dX7_tellFraction_3 : decode cX7_tellFraction 3 = .ok (.lload_n 3, 1) := by decide +kernel
set_option maxRecDepth 20000 in
theorem dX7_tellFraction_4 : decode cX7_tellFraction 4 = .ok (.lstore 7, 2) := by decide +kernel
set_option maxRecDepth 20000 in
theorem dX7_tellFraction_6 : decode cX7_tellFraction 6 = .ok (.iconst 0, 1) := by decide +kernel
set_option maxRecDepth 20000 in
theorem dX7_tellFraction_7 : decode cX7_tellFraction 7 = .ok (.istore 9, 2) := by decide +kernel
set_option maxRecDepth 20000 in
theorem dX7_tellFraction_9 : decode cX7_tellFraction 9 = .ok (.iload 9, 2) := by decide +kernel
set_option maxRecDepth 20000 in
theorem dX7_tellFraction_11 : decode cX7_tellFraction 11 = .ok (.bipush 100, 2) := by decide +kernel
set_option maxRecDepth 20000 in
theorem dX7_tellFraction_13 : decode cX7_tellFraction 13 = .ok (.if_icmp .ge 31, 3) := by decide +kernel
set_option maxRecDepth 20000 in
theorem dX7_tellFraction_16 : decode cX7_tellFraction 16 = .ok (.lload 7, 2) := by decide +kernel
set_option maxRecDepth 20000 in
theorem dX7_tellFraction_18 : decode cX7_tellFraction 18 = .ok (.lconst 0, 1) := by decide +kernel
set_option maxRecDepth 20000 in
theorem dX7_tellFraction_19 : decode cX7_tellFraction 19 = .ok (.lcmp, 1) := by decide +kernel
set_option maxRecDepth 20000 in
theorem dX7_tellFraction_20 : decode cX7_tellFraction 20 = .ok (.ifCond .eq 24, 3) := by decide +kernel
set_option maxRecDepth 20000 in
theorem dX7_tellFraction_23 : decode cX7_tellFraction 23 = .ok (.lload 5, 2) := by decide +kernel
set_option maxRecDepth 20000 in
theorem dX7_tellFraction_25 : decode cX7_tellFraction 25 = .ok (.lload 7, 2) := by decide +kernel
set_option maxRecDepth 20000 in
theorem dX7_tellFraction_27 : decode cX7_tellFraction 27 = .ok (.lrem, 1) := by decide +kernel
set_option maxRecDepth 20000 in
theorem dX7_tellFraction_28 : decode cX7_tellFraction 28 = .ok (.lstore 10, 2) := by decide +kernel
set_option maxRecDepth 20000 in
theorem dX7_tellFraction_30 : decode cX7_tellFraction 30 = .ok (.lload 7, 2) := by decide +kernel
set_option maxRecDepth 20000 in
theorem dX7_tellFraction_32 : decode cX7_tellFraction 32 = .ok (.lstore 5, 2) := by decide +kernel
set_option maxRecDepth 20000 in
theorem dX7_tellFraction_34 : decode cX7_tellFraction 34 = .ok (.lload 10, 2) := by decide +kernel
set_option maxRecDepth 20000 in
theorem dX7_tellFraction_36 : decode cX7_tellFraction 36 = .ok (.lstore 7, 2) := by decide +kernel
set_option maxRecDepth 20000 in
theorem dX7_tellFraction_38 : decode cX7_tellFraction 38 = .ok (.iinc 9 1, 3) := by decide +kernel
set_option maxRecDepth 20000 in
theorem dX7_tellFraction_41 : decode cX7_tellFraction 41 = .ok (.goto (-32), 3) := by decide +kernel
set_option maxRecDepth 20000 in
theorem dX7_tellFraction_44 : decode cX7_tellFraction 44 = .ok (.lload 5, 2) := by decide +kernel
set_option maxRecDepth 20000 in
theorem dX7_tellFraction_46 : decode cX7_tellFraction 46 = .ok (.lconst 0, 1) := by decide +kernel
set_option maxRecDepth 20000 in
theorem dX7_tellFraction_47 : decode cX7_tellFraction 47 = .ok (.lcmp, 1) := by decide +kernel
set_option maxRecDepth 20000 in
theorem dX7_tellFraction_48 : decode cX7_tellFraction 48 = .ok (.ifCond .le 19, 3) := by decide +kernel
set_option maxRecDepth 20000 in
theorem dX7_tellFraction_51 : decode cX7_tellFraction 51 = .ok (.aload_n 0, 1) := by decide +kernel
set_option maxRecDepth 20000 in
theorem dX7_tellFraction_52 : decode cX7_tellFraction 52 = .ok (.lload_n 1, 1) := by decide +kernel
set_option maxRecDepth 20000 in
theorem dX7_tellFraction_53 : decode cX7_tellFraction 53 = .ok (.lload 5, 2) := by decide +kernel
set_option maxRecDepth 20000 in
theorem dX7_tellFraction_55 : decode cX7_tellFraction 55 = .ok (.ldiv, 1) := by decide +kernel
set_option maxRecDepth 20000 in
theorem dX7_tellFraction_56 : decode cX7_tellFraction 56 = .ok (.putfield 72, 3) := by decide +kernel
set_option maxRecDepth 20000 in
theorem dX7_tellFraction_59 : decode cX7_tellFraction 59 = .ok (.aload_n 0, 1) := by decide +kernel
set_option maxRecDepth 20000 in
theorem dX7_tellFraction_60 : decode cX7_tellFraction 60 = .ok (.lload_n 3, 1) := by decide +kernel
set_option maxRecDepth 20000 in
theorem dX7_tellFraction_61 : decode cX7_tellFraction 61 = .ok (.lload 5, 2) := by decide +kernel
set_option maxRecDepth 20000 in
theorem dX7_tellFraction_63 : decode cX7_tellFraction 63 = .ok (.ldiv, 1) := by decide +kernel
set_option maxRecDepth 20000 in
theorem dX7_tellFraction_64 : decode cX7_tellFraction 64 = .ok (.putfield 76, 3) := by decide +kernel
set_option maxRecDepth 20000 in
theorem dX7_tellFraction_67 : decode cX7_tellFraction 67 = .ok (.return_, 1) := by decide +kernel
def f_X7_tellFraction_44 (N : Nat) (c_above : Int64) (c_below : Int64) (v1 : Int64) (v3 : Int64) (v5 : Int64) : Option (Int64 × Int64) :=
    (if v5 ≤ 0 then
      some (c_above, c_below)
    else
      if v5 = 0 then none else
      if v5 = 0 then none else
      some (v1 / v5, v3 / v5))
set_option maxHeartbeats 4000000 in
set_option maxRecDepth 100000 in
theorem g_X7_tellFraction_44 {κ : KC} {ω : KW} {A : Nat → Prop} {ad : Nat → Nat}  {N : Nat}   {res : Int64 × Int64} {c_above : Int64} {c_below : Int64} {v1 : Int64} {v3 : Int64} {v5 : Int64} (hf : f_X7_tellFraction_44 N c_above c_below v1 v3 v5 = some res) : GG mu_X7_tellFraction κ ω A (QR κ ω A ad (none) (w_X7_tellFraction res.1 res.2)) ad 0 0 44 (w_X7_tellFraction c_above c_below) [some (.ref 0), some (.long v1), none, some (.long v3), none, some (.long v5), none, none, none, none, none, none] [] := by
  refine G_lload dX7_tellFraction_44 rfl ?_
  refine G_lconst 0 dX7_tellFraction_46 (by decide) ?_
  refine G_lcmp_le 67 dX7_tellFraction_47 dX7_tellFraction_48 (by decide) (fun h1 => ?_) (fun h1 => ?_)
  · replace hf := ob_t h1 hf
    obtain rfl := os hf
    exact G_return dX7_tellFraction_67 rfl
  · replace hf := ob_f h1 hf
    refine G_aload_n dX7_tellFraction_51 rfl rfl ?_
    refine G_lload_n dX7_tellFraction_52 rfl rfl ?_
    refine G_lload dX7_tellFraction_53 rfl ?_
    obtain ⟨h2, hf⟩ := ob_z hf
    refine G_ldiv dX7_tellFraction_55 h2 ?_
    refine G_put (w2 := (w_X7_tellFraction (v1 / v5) c_below)) F_X7_72 dX7_tellFraction_56 rfl rfl rfl (ltb rfl) rfl ?_
    refine G_aload_n dX7_tellFraction_59 rfl rfl ?_
    refine G_lload_n dX7_tellFraction_60 rfl rfl ?_
    refine G_lload dX7_tellFraction_61 rfl ?_
    obtain ⟨h3, hf⟩ := ob_z hf
    refine G_ldiv dX7_tellFraction_63 h3 ?_
    refine G_put (w2 := (w_X7_tellFraction (v1 / v5) (v3 / v5))) F_X7_76 dX7_tellFraction_64 rfl rfl rfl (ltb rfl) rfl ?_
    obtain rfl := os hf
    exact G_return dX7_tellFraction_67 rfl
def f_X7_tellFraction_9 (N : Nat) : Nat → Int64 → Int64 → Int64 → Int64 → Int64 → Int64 → Int32 → Option (Int64 × Int64)
  | 0, _, _, _, _, _, _, _ => none
  | n + 1, c_above, c_below, v1, v3, v5, v7, v9 =>
    (if 100 ≤ v9 then
      f_X7_tellFraction_44 N c_above c_below v1 v3 v5
    else
      (if v7 = 0 then
        f_X7_tellFraction_44 N c_above c_below v1 v3 v5
      else
        if v7 = 0 then none else
        f_X7_tellFraction_9 N n c_above c_below v1 v3 v7 (v5 - v5 / v7 * v7) (v9 + 1)))
set_option maxHeartbeats 4000000 in
set_option maxRecDepth 100000 in
theorem g_X7_tellFraction_9 {κ : KC} {ω : KW} {A : Nat → Prop} {ad : Nat → Nat}  {N : Nat}   {res : Int64 × Int64} : ∀ (n : Nat) {c_above : Int64} {c_below : Int64} {v1 : Int64} {v3 : Int64} {v5 : Int64} {v7 : Int64} {v9 : Int32}, f_X7_tellFraction_9 N n c_above c_below v1 v3 v5 v7 v9 = some res → GG mu_X7_tellFraction κ ω A (QR κ ω A ad (none) (w_X7_tellFraction res.1 res.2)) ad 0 0 9 (w_X7_tellFraction c_above c_below) [some (.ref 0), some (.long v1), none, some (.long v3), none, some (.long v5), none, some (.long v7), none, some (.int v9), none, none] [] := by
  intro n
  induction n with
  | zero => intro c_above c_below v1 v3 v5 v7 v9 hf; exact ob_0 hf
  | succ n ih =>
    intro c_above c_below v1 v3 v5 v7 v9 hf
    refine G_iload dX7_tellFraction_9 rfl ?_
    refine G_bipush 100 dX7_tellFraction_11 (by decide) ?_
    refine G_icmp_ge 44 dX7_tellFraction_13 (by decide) (fun h1 => ?_) (fun h1 => ?_)
    · replace hf := ob_t h1 hf
      refine GG.sb (lv2 := [some (.ref 0), some (.long v1), none, some (.long v3), none, some (.long v5), none, none, none, none, none, none]) ?_ (lvS_v rfl (lvS_v rfl (lvS_n (lvS_v rfl (lvS_n (lvS_v rfl (lvS_n (lvS_n (lvS_n (lvS_n (lvS_n (lvS_n (lvS_e)))))))))))))
      exact g_X7_tellFraction_44 hf
    · replace hf := ob_f h1 hf
      refine G_lload dX7_tellFraction_16 rfl ?_
      refine G_lconst 0 dX7_tellFraction_18 (by decide) ?_
      refine G_lcmp_eq 44 dX7_tellFraction_19 dX7_tellFraction_20 (by decide) (fun h2 => ?_) (fun h2 => ?_)
      · replace hf := ob_t h2 hf
        refine GG.sb (lv2 := [some (.ref 0), some (.long v1), none, some (.long v3), none, some (.long v5), none, none, none, none, none, none]) ?_ (lvS_v rfl (lvS_v rfl (lvS_n (lvS_v rfl (lvS_n (lvS_v rfl (lvS_n (lvS_n (lvS_n (lvS_n (lvS_n (lvS_n (lvS_e)))))))))))))
        exact g_X7_tellFraction_44 hf
      · replace hf := ob_f h2 hf
        refine G_lload dX7_tellFraction_23 rfl ?_
        refine G_lload dX7_tellFraction_25 rfl ?_
        obtain ⟨h3, hf⟩ := ob_z hf
        refine G_lrem dX7_tellFraction_27 h3 ?_
        refine G_lstore dX7_tellFraction_28 (ltb rfl) ?_
        change GG _ _ _ _ _ _ _ _ _ _ [some (.ref 0), some (.long v1), none, some (.long v3), none, some (.long v5), none, some (.long v7), none, some (.int v9), some (.long (v5 - v5 / v7 * v7)), none] _
        refine G_lload dX7_tellFraction_30 rfl ?_
        refine G_lstore dX7_tellFraction_32 (ltb rfl) ?_
        change GG _ _ _ _ _ _ _ _ _ _ [some (.ref 0), some (.long v1), none, some (.long v3), none, some (.long v7), none, some (.long v7), none, some (.int v9), some (.long (v5 - v5 / v7 * v7)), none] _
        refine G_lload dX7_tellFraction_34 rfl ?_
        refine G_lstore dX7_tellFraction_36 (ltb rfl) ?_
        change GG _ _ _ _ _ _ _ _ _ _ [some (.ref 0), some (.long v1), none, some (.long v3), none, some (.long v7), none, some (.long (v5 - v5 / v7 * v7)), none, some (.int v9), some (.long (v5 - v5 / v7 * v7)), none] _
        refine G_iinc 1 dX7_tellFraction_38 (by decide) rfl (ltb rfl) ?_
        change GG _ _ _ _ _ _ _ _ _ _ [some (.ref 0), some (.long v1), none, some (.long v3), none, some (.long v7), none, some (.long (v5 - v5 / v7 * v7)), none, some (.int (v9 + 1)), some (.long (v5 - v5 / v7 * v7)), none] _
        refine G_goto 9 dX7_tellFraction_41 (by decide) ?_
        refine GG.sb (lv2 := [some (.ref 0), some (.long v1), none, some (.long v3), none, some (.long v7), none, some (.long (v5 - v5 / v7 * v7)), none, some (.int (v9 + 1)), none, none]) ?_ (lvS_v rfl (lvS_v rfl (lvS_n (lvS_v rfl (lvS_n (lvS_v rfl (lvS_n (lvS_v rfl (lvS_n (lvS_v rfl (lvS_n (lvS_n (lvS_e)))))))))))))
        exact ih hf
def f_X7_tellFraction (N : Nat) (c_above : Int64) (c_below : Int64) (a1 : Int64) (a3 : Int64) : Option (Int64 × Int64) :=
  f_X7_tellFraction_9 N N c_above c_below a1 a3 a1 a3 0
set_option maxHeartbeats 4000000 in
set_option maxRecDepth 100000 in
theorem c_X7_tellFraction {N : Nat}  {c_above : Int64} {c_below : Int64}  {a1 : Int64} {a3 : Int64} {res : Int64 × Int64} (hf : f_X7_tellFraction N c_above c_below a1 a3 = some res) : Con mu_X7_tellFraction [.ref 0, .long a1, .long a3] (w_X7_tellFraction c_above c_below) (none) (w_X7_tellFraction res.1 res.2) := by
  refine Con.mk (show plainName RX7 = true by decide +kernel) (leb rfl) (fun κ ω A ad => ?_)
  change GG mu_X7_tellFraction κ ω A (QR κ ω A ad (none) (w_X7_tellFraction res.1 res.2)) ad 0 0 0 (w_X7_tellFraction c_above c_below) [some (.ref 0), some (.long a1), none, some (.long a3), none, none, none, none, none, none, none, none] []
  refine G_lload_n dX7_tellFraction_0 rfl rfl ?_
  refine G_lstore dX7_tellFraction_1 (ltb rfl) ?_
  change GG _ _ _ _ _ _ _ _ _ _ [some (.ref 0), some (.long a1), none, some (.long a3), none, some (.long a1), none, none, none, none, none, none] _
  refine G_lload_n dX7_tellFraction_3 rfl rfl ?_
  refine G_lstore dX7_tellFraction_4 (ltb rfl) ?_
  change GG _ _ _ _ _ _ _ _ _ _ [some (.ref 0), some (.long a1), none, some (.long a3), none, some (.long a1), none, some (.long a3), none, none, none, none] _
  refine G_iconst 0 dX7_tellFraction_6 (by decide) ?_
  refine G_istore dX7_tellFraction_7 (ltb rfl) ?_
  change GG _ _ _ _ _ _ _ _ _ _ [some (.ref 0), some (.long a1), none, some (.long a3), none, some (.long a1), none, some (.long a3), none, some (.int 0), none, none] _
  exact g_X7_tellFraction_9 N hf
set_option maxRecDepth 20000 in
theorem dX7_better_0 : decode cX7_better 0 = .ok (.iload_n 1, 1) := by decide +kernel
set_option maxRecDepth 20000 in
theorem dX7_better_1 : decode cX7_better 1 = .ok (.invokestatic 135, 3) := by decide +kernel
set_option maxRecDepth 20000 in
theorem dX7_better_4 : decode cX7_better 4 = .ok (.ifCond .ne 6, 3) := by decide +kernel
set_option maxRecDepth 20000 in
theorem dX7_better_7 : decode cX7_better 7 = .ok (.bipush (-2), 2) := by decide +kernel
set_option maxRecDepth 20000 in
theorem dX7_better_9 : decode cX7_better 9 = .ok (.ireturn, 1) := by decide +kernel
set_option maxRecDepth 20000 in
theorem dX7_better_10 : decode cX7_better 10 = .ok (.aload_n 0, 1) := by decide +kernel
set_option maxRecDepth 20000 in
theorem dX7_better_11 : decode cX7_better 11 = .ok (.iload_n 1, 1) := by decide +kernel
set_option maxRecDepth 20000 in
theorem dX7_better_12 : decode cX7_better 12 = .ok (.iconst 1, 1) := by decide +kernel
set_option maxRecDepth 20000 in
theorem dX7_better_13 : decode cX7_better 13 = .ok (.ldc 193, 2) := by decide +kernel
set_option maxRecDepth 20000 in
theorem dX7_better_15 : decode cX7_better 15 = .ok (.invokevirtual 172, 3) := by decide +kernel
set_option maxRecDepth 20000 in
theorem dX7_better_18 : decode cX7_better 18 = .ok (.aload_n 0, 1) := by decide +kernel
set_option maxRecDepth 20000 in
theorem dX7_better_19 : decode cX7_better 19 = .ok (.getfield 28, 3) := by decide +kernel
set_option maxRecDepth 20000 in
theorem dX7_better_22 : decode cX7_better 22 = .ok (.invokevirtual 175, 3) := by decide +kernel
set_option maxRecDepth 20000 in
theorem dX7_better_25 : decode cX7_better 25 = .ok (.ireturn, 1) := by decide +kernel
def f_X7_better (N : Nat) (c_board_askers : Int32) (c_board_places : Int32) (c_board_seats : Nat → Int32) (c_board_told : Nat → Int32) (c_board_wishes : Nat → Int32) (c_aimed_askers : Int32) (c_aimed_places : Int32) (c_aimed_seatBits : Int32) (c_aimed_entries : Int32) (c_aimed_best : Nat → Int32) (c_aimed_clipAll : Nat → Int32) (c_aimed_clipToOne : Nat → Int32) (c_aimed_clipToTwo : Nat → Int32) (c_aimed_firstOf : Nat → Int32) (c_aimed_gains : Nat → Int32) (c_aimed_left : Nat → Int32) (c_aimed_next : Nat → Int32) (c_aimed_solvedGains : Nat → Int32) (c_aimed_ways : Nat → Int32) (c_all_slots : Nat → Int32) (a1 : Int32) : Option (Int32 × Int32 × Int32 × Int32 × Int32 × (Nat → Int32) × (Nat → Int32) × (Nat → Int32) × (Nat → Int32) × (Nat → Int32) × (Nat → Int32) × (Nat → Int32) × (Nat → Int32) × (Nat → Int32) × (Nat → Int32) × (Nat → Int32)) :=
  (f_X7_isTold N a1).bind fun r1 =>
  (if r1 = 0 then
    some ((-2 : Int32), c_aimed_askers, c_aimed_places, c_aimed_seatBits, c_aimed_entries, c_aimed_best, c_aimed_clipAll, c_aimed_clipToOne, c_aimed_clipToTwo, c_aimed_firstOf, c_aimed_gains, c_aimed_left, c_aimed_next, c_aimed_solvedGains, c_aimed_ways, c_all_slots)
  else
    (f_X7_solveVotes N c_board_askers c_board_places c_board_seats c_board_told c_board_wishes c_aimed_askers c_aimed_places c_aimed_seatBits c_aimed_entries c_aimed_best c_aimed_clipAll c_aimed_clipToOne c_aimed_clipToTwo c_aimed_firstOf c_aimed_gains c_aimed_left c_aimed_next c_aimed_solvedGains c_aimed_ways c_all_slots a1 1 (-2000000000 : Int32)).bind fun (o4, o5, o6, o7, o8, o9, o10, o11, o12, o13, o14, o15, o16, o17, o18) =>
    (f_X4_bestGain N o8).bind fun r20 =>
    some (r20, o4, o5, o6, o7, o8, o9, o10, o11, o12, o13, o14, o15, o16, o17, o18))
set_option maxHeartbeats 4000000 in
set_option maxRecDepth 100000 in
theorem c_X7_better {N : Nat} {c_board_askers : Int32} {c_board_places : Int32} {c_board_seats : Nat → Int32} {c_board_told : Nat → Int32} {c_board_wishes : Nat → Int32} {c_aimed_askers : Int32} {c_aimed_places : Int32} {c_aimed_seatBits : Int32} {c_aimed_entries : Int32} {c_aimed_best : Nat → Int32} {c_aimed_clipAll : Nat → Int32} {c_aimed_clipToOne : Nat → Int32} {c_aimed_clipToTwo : Nat → Int32} {c_aimed_firstOf : Nat → Int32} {c_aimed_gains : Nat → Int32} {c_aimed_left : Nat → Int32} {c_aimed_next : Nat → Int32} {c_aimed_solvedGains : Nat → Int32} {c_aimed_ways : Nat → Int32} {c_all_slots : Nat → Int32} {u_above : Int64} {u_below : Int64} {u_board_age : Int32} {a1 : Int32} {res : Int32 × Int32 × Int32 × Int32 × Int32 × (Nat → Int32) × (Nat → Int32) × (Nat → Int32) × (Nat → Int32) × (Nat → Int32) × (Nat → Int32) × (Nat → Int32) × (Nat → Int32) × (Nat → Int32) × (Nat → Int32) × (Nat → Int32)} (hf : f_X7_better N c_board_askers c_board_places c_board_seats c_board_told c_board_wishes c_aimed_askers c_aimed_places c_aimed_seatBits c_aimed_entries c_aimed_best c_aimed_clipAll c_aimed_clipToOne c_aimed_clipToTwo c_aimed_firstOf c_aimed_gains c_aimed_left c_aimed_next c_aimed_solvedGains c_aimed_ways c_all_slots a1 = some res) : Con mu_X7_better [.ref 0, .int a1] (w_X7_better c_aimed_askers c_aimed_places c_aimed_seatBits c_aimed_entries c_board_askers c_board_places c_aimed_best c_aimed_clipAll c_aimed_clipToOne c_aimed_clipToTwo c_aimed_firstOf c_aimed_gains c_aimed_left c_aimed_next c_aimed_solvedGains c_aimed_ways c_all_slots c_board_seats c_board_told c_board_wishes u_above u_below u_board_age) (some (.int res.1)) (w_X7_better res.2.1 res.2.2.1 res.2.2.2.1 res.2.2.2.2.1 c_board_askers c_board_places res.2.2.2.2.2.1 res.2.2.2.2.2.2.1 res.2.2.2.2.2.2.2.1 res.2.2.2.2.2.2.2.2.1 res.2.2.2.2.2.2.2.2.2.1 res.2.2.2.2.2.2.2.2.2.2.1 res.2.2.2.2.2.2.2.2.2.2.2.1 res.2.2.2.2.2.2.2.2.2.2.2.2.1 res.2.2.2.2.2.2.2.2.2.2.2.2.2.1 res.2.2.2.2.2.2.2.2.2.2.2.2.2.2.1 res.2.2.2.2.2.2.2.2.2.2.2.2.2.2.2 c_board_seats c_board_told c_board_wishes u_above u_below u_board_age) := by
  refine Con.mk (show plainName RX7 = true by decide +kernel) (leb rfl) (fun κ ω A ad => ?_)
  change GG mu_X7_better κ ω A (QR κ ω A ad (some (.int res.1)) (w_X7_better res.2.1 res.2.2.1 res.2.2.2.1 res.2.2.2.2.1 c_board_askers c_board_places res.2.2.2.2.2.1 res.2.2.2.2.2.2.1 res.2.2.2.2.2.2.2.1 res.2.2.2.2.2.2.2.2.1 res.2.2.2.2.2.2.2.2.2.1 res.2.2.2.2.2.2.2.2.2.2.1 res.2.2.2.2.2.2.2.2.2.2.2.1 res.2.2.2.2.2.2.2.2.2.2.2.2.1 res.2.2.2.2.2.2.2.2.2.2.2.2.2.1 res.2.2.2.2.2.2.2.2.2.2.2.2.2.2.1 res.2.2.2.2.2.2.2.2.2.2.2.2.2.2.2 c_board_seats c_board_told c_board_wishes u_above u_below u_board_age)) ad 0 0 0 (w_X7_better c_aimed_askers c_aimed_places c_aimed_seatBits c_aimed_entries c_board_askers c_board_places c_aimed_best c_aimed_clipAll c_aimed_clipToOne c_aimed_clipToTwo c_aimed_firstOf c_aimed_gains c_aimed_left c_aimed_next c_aimed_solvedGains c_aimed_ways c_all_slots c_board_seats c_board_told c_board_wishes u_above u_below u_board_age) [some (.ref 0), some (.int a1)] []
  refine G_iload_n dX7_better_0 rfl rfl ?_
  obtain ⟨r1, hc2, hf⟩ := ob hf
  refine G_callS (μ2 := mu_X7_isTold) (As := [.int a1]) (w2 := (w_X7_better c_aimed_askers c_aimed_places c_aimed_seatBits c_aimed_entries c_board_askers c_board_places c_aimed_best c_aimed_clipAll c_aimed_clipToOne c_aimed_clipToTwo c_aimed_firstOf c_aimed_gains c_aimed_left c_aimed_next c_aimed_solvedGains c_aimed_ways c_all_slots c_board_seats c_board_told c_board_wishes u_above u_below u_board_age)) (wc := []) (wc2 := []) (rest := []) (rv := [.int r1]) [] [] [0, 1, 2, 3, 4, 5, 6, 7, 8, 9, 10, 11, 12, 13, 14, 15, 16] [0, 1, 2, 3, 4, 5, 6, 7, 8, 9, 10, 11, 12, 13, 14, 15, 16] (c_X7_isTold hc2) cw_X7_isTold m_X7_135 rfl dX7_better_1 rfl ⟨leb rfl, leb rfl⟩ ⟨rfl, rfl⟩ (Fit.mk rfl rfl rfl) rfl (leb rfl) (ROsub.nil rfl rfl) rfl ?_
  change GG _ _ _ _ _ _ _ _ _ (w_X7_better c_aimed_askers c_aimed_places c_aimed_seatBits c_aimed_entries c_board_askers c_board_places c_aimed_best c_aimed_clipAll c_aimed_clipToOne c_aimed_clipToTwo c_aimed_firstOf c_aimed_gains c_aimed_left c_aimed_next c_aimed_solvedGains c_aimed_ways c_all_slots c_board_seats c_board_told c_board_wishes u_above u_below u_board_age) [some (.ref 0), some (.int a1)] [.int r1]
  refine G_if_ne 10 dX7_better_4 (by decide) (fun h3 => ?_) (fun h3 => ?_)
  · replace hf := ob_f h3 hf
    refine G_aload_n dX7_better_10 rfl rfl ?_
    refine G_iload_n dX7_better_11 rfl rfl ?_
    refine G_iconst 1 dX7_better_12 (by decide) ?_
    refine G_ldc (v := (-2000000000 : Int32)) dX7_better_13 k_X7_193 ?_
    obtain ⟨⟨o4, o5, o6, o7, o8, o9, o10, o11, o12, o13, o14, o15, o16, o17, o18⟩, hc19, hf⟩ := ob hf
    refine G_callV (μ2 := mu_X7_solveVotes) (As := [.int a1, .int 1, .int (-2000000000 : Int32)]) (w2 := (w_X7_better o4 o5 o6 o7 c_board_askers c_board_places o8 o9 o10 o11 o12 o13 o14 o15 o16 o17 o18 c_board_seats c_board_told c_board_wishes u_above u_below u_board_age)) (wc := (w_X7_solveVotes c_aimed_askers c_aimed_places c_aimed_seatBits c_aimed_entries c_board_askers c_board_places c_aimed_best c_aimed_clipAll c_aimed_clipToOne c_aimed_clipToTwo c_aimed_firstOf c_aimed_gains c_aimed_left c_aimed_next c_aimed_solvedGains c_aimed_ways c_all_slots c_board_seats c_board_told c_board_wishes u_above u_below u_board_age)) (wc2 := (w_X7_solveVotes o4 o5 o6 o7 c_board_askers c_board_places o8 o9 o10 o11 o12 o13 o14 o15 o16 o17 o18 c_board_seats c_board_told c_board_wishes u_above u_below u_board_age)) (rest := []) (rv := []) [0, 1, 2, 3, 4, 5, 6, 7, 8, 9, 10, 11, 12, 13, 14, 15, 16] [1000, 1001, 1002, 1003, 1004, 1005, 1006, 1007, 1008] [] [0, 1, 2, 3, 4, 5, 6, 7, 8, 9, 10, 11, 12, 13, 14, 15, 16] (c_X7_solveVotes hc19) cw_X7_solveVotes m_X7_172 dX7_better_15 rfl ⟨leb rfl, leb rfl⟩ ⟨rfl, rfl⟩ rfl ⟨_, rfl, rfl⟩ (Fit.mk rfl rfl rfl) rfl (leb rfl) (ROsub.nil rfl rfl) rfl ?_
    change GG _ _ _ _ _ _ _ _ _ (w_X7_better o4 o5 o6 o7 c_board_askers c_board_places o8 o9 o10 o11 o12 o13 o14 o15 o16 o17 o18 c_board_seats c_board_told c_board_wishes u_above u_below u_board_age) [some (.ref 0), some (.int a1)] []
    refine G_aload_n dX7_better_18 rfl rfl ?_
    refine G_get (v := .ref 1) F_X7_28 dX7_better_19 rfl rfl ?_
    obtain ⟨r20, hc21, hf⟩ := ob hf
    refine G_callV (μ2 := mu_X4_bestGain) (As := []) (w2 := (w_X7_better o4 o5 o6 o7 c_board_askers c_board_places o8 o9 o10 o11 o12 o13 o14 o15 o16 o17 o18 c_board_seats c_board_told c_board_wishes u_above u_below u_board_age)) (wc := (w_X4_bestGain o8 o4 o5 o6 o7)) (wc2 := (w_X4_bestGain o8 o4 o5 o6 o7)) (rest := []) (rv := [.int r20]) [1, 3] [2, 8, 11, 9, 12, 10, 7, 13, 4, 5, 6] [0, 2, 4, 5, 6, 7, 8, 9, 10, 11, 12, 13, 14, 15, 16] [0, 15, 1, 16, 2, 3, 4, 5, 6, 7, 8, 9, 10, 11, 12, 13, 14] (c_X4_bestGain hc21) cw_X4_bestGain m_X7_175 dX7_better_22 rfl ⟨leb rfl, leb rfl⟩ ⟨rfl, rfl⟩ rfl ⟨_, rfl, rfl⟩ (Fit.mk rfl rfl rfl) rfl (leb rfl) (ROsub.nil rfl rfl) rfl ?_
    change GG _ _ _ _ _ _ _ _ _ (w_X7_better o4 o5 o6 o7 c_board_askers c_board_places o8 o9 o10 o11 o12 o13 o14 o15 o16 o17 o18 c_board_seats c_board_told c_board_wishes u_above u_below u_board_age) [some (.ref 0), some (.int a1)] [.int r20]
    obtain rfl := os hf
    exact G_ireturn dX7_better_25 rfl
  · replace hf := ob_t h3 hf
    refine G_bipush (-2 : Int32) dX7_better_7 (by decide) ?_
    obtain rfl := os hf
    exact G_ireturn dX7_better_9 rfl
set_option maxRecDepth 20000 in
theorem dX7_findFactor_0 : decode cX7_findFactor 0 = .ok (.iconst 1, 1) := by decide +kernel
set_option maxRecDepth 20000 in
theorem dX7_findFactor_1 : decode cX7_findFactor 1 = .ok (.istore_n 2, 1) := by decide +kernel
set_option maxRecDepth 20000 in
theorem dX7_findFactor_2 : decode cX7_findFactor 2 = .ok (.iconst 1, 1) := by decide +kernel
set_option maxRecDepth 20000 in
theorem dX7_findFactor_3 : decode cX7_findFactor 3 = .ok (.istore_n 3, 1) := by decide +kernel
set_option maxRecDepth 20000 in
theorem dX7_findFactor_4 : decode cX7_findFactor 4 = .ok (.iconst 0, 1) := by decide +kernel
set_option maxRecDepth 20000 in
theorem dX7_findFactor_5 : decode cX7_findFactor 5 = .ok (.istore 4, 2) := by decide +kernel
set_option maxRecDepth 20000 in
theorem dX7_findFactor_7 : decode cX7_findFactor 7 = .ok (.iload 4, 2) := by decide +kernel
set_option maxRecDepth 20000 in
theorem dX7_findFactor_9 : decode cX7_findFactor 9 = .ok (.bipush 64, 2) := by decide +kernel
set_option maxRecDepth 20000 in
theorem dX7_findFactor_11 : decode cX7_findFactor 11 = .ok (.if_icmp .ge 54, 3) := by decide +kernel
set_option maxRecDepth 20000 in
theorem dX7_findFactor_14 : decode cX7_findFactor 14 = .ok (.aload_n 0, 1) := by decide +kernel
set_option maxRecDepth 20000 in
theorem dX7_findFactor_15 : decode cX7_findFactor 15 = .ok (.iload_n 1, 1) := by decide +kernel
set_option maxRecDepth 20000 in
theorem dX7_findFactor_16 : decode cX7_findFactor 16 = .ok (.iload_n 3, 1) := by decide +kernel
set_option maxRecDepth 20000 in
theorem dX7_findFactor_17 : decode cX7_findFactor 17 = .ok (.iload_n 2, 1) := by decide +kernel
set_option maxRecDepth 20000 in
theorem dX7_findFactor_18 : decode cX7_findFactor 18 = .ok (.ineg, 1) := by decide +kernel
set_option maxRecDepth 20000 in
theorem dX7_findFactor_19 : decode cX7_findFactor 19 = .ok (.invokevirtual 172, 3) := by decide +kernel
set_option maxRecDepth 20000 in
theorem dX7_findFactor_22 : decode cX7_findFactor 22 = .ok (.aload_n 0, 1) := by decide +kernel
set_option maxRecDepth 20000 in
theorem dX7_findFactor_23 : decode cX7_findFactor 23 = .ok (.getfield 28, 3) := by decide +kernel
set_option maxRecDepth 20000 in
theorem dX7_findFactor_26 : decode cX7_findFactor 26 = .ok (.invokevirtual 175, 3) := by decide +kernel
set_option maxRecDepth 20000 in
theorem dX7_findFactor_29 : decode cX7_findFactor 29 = .ok (.ifCond .gt 6, 3) := by decide +kernel
set_option maxRecDepth 20000 in
theorem dX7_findFactor_32 : decode cX7_findFactor 32 = .ok (.goto 33, 3) := by decide +kernel
set_option maxRecDepth 20000 in
theorem dX7_findFactor_35 : decode cX7_findFactor 35 = .ok (.aload_n 0, 1) := by decide +kernel
set_option maxRecDepth 20000 in
theorem dX7_findFactor_36 : decode cX7_findFactor 36 = .ok (.getfield 28, 3) := by decide +kernel
set_option maxRecDepth 20000 in
theorem dX7_findFactor_39 : decode cX7_findFactor 39 = .ok (.iconst 0, 1) := by decide +kernel
set_option maxRecDepth 20000 in
theorem dX7_findFactor_40 : decode cX7_findFactor 40 = .ok (.aload_n 0, 1) := by decide +kernel
set_option maxRecDepth 20000 in
theorem dX7_findFactor_41 : decode cX7_findFactor 41 = .ok (.getfield 68, 3) := by decide +kernel
set_option maxRecDepth 20000 in
theorem dX7_findFactor_44 : decode cX7_findFactor 44 = .ok (.invokevirtual 131, 3) := by decide +kernel
set_option maxRecDepth 20000 in
theorem dX7_findFactor_47 : decode cX7_findFactor 47 = .ok (.aload_n 0, 1) := by decide +kernel
set_option maxRecDepth 20000 in
theorem dX7_findFactor_48 : decode cX7_findFactor 48 = .ok (.iload_n 1, 1) := by decide +kernel
set_option maxRecDepth 20000 in
theorem dX7_findFactor_49 : decode cX7_findFactor 49 = .ok (.invokevirtual 166, 3) := by decide +kernel
set_option maxRecDepth 20000 in
theorem dX7_findFactor_52 : decode cX7_findFactor 52 = .ok (.istore_n 2, 1) := by decide +kernel
set_option maxRecDepth 20000 in
theorem dX7_findFactor_53 : decode cX7_findFactor 53 = .ok (.aload_n 0, 1) := by decide +kernel
set_option maxRecDepth 20000 in
theorem dX7_findFactor_54 : decode cX7_findFactor 54 = .ok (.iload_n 1, 1) := by decide +kernel
set_option maxRecDepth 20000 in
theorem dX7_findFactor_55 : decode cX7_findFactor 55 = .ok (.invokevirtual 169, 3) := by decide +kernel
set_option maxRecDepth 20000 in
theorem dX7_findFactor_58 : decode cX7_findFactor 58 = .ok (.istore_n 3, 1) := by decide +kernel
set_option maxRecDepth 20000 in
theorem dX7_findFactor_59 : decode cX7_findFactor 59 = .ok (.iinc 4 1, 3) := by decide +kernel
set_option maxRecDepth 20000 in
theorem dX7_findFactor_62 : decode cX7_findFactor 62 = .ok (.goto (-55), 3) := by decide +kernel
set_option maxRecDepth 20000 in
theorem dX7_findFactor_65 : decode cX7_findFactor 65 = .ok (.aload_n 0, 1) := by decide +kernel
set_option maxRecDepth 20000 in
theorem dX7_findFactor_66 : decode cX7_findFactor 66 = .ok (.iload_n 2, 1) := by decide +kernel
set_option maxRecDepth 20000 in
theorem dX7_findFactor_67 : decode cX7_findFactor 67 = .ok (.i2l, 1) := by decide +kernel
set_option maxRecDepth 20000 in
theorem dX7_findFactor_68 : decode cX7_findFactor 68 = .ok (.iload_n 3, 1) := by decide +kernel
set_option maxRecDepth 20000 in
theorem dX7_findFactor_69 : decode cX7_findFactor 69 = .ok (.i2l, 1) := by decide +kernel
set_option maxRecDepth 20000 in
theorem dX7_findFactor_70 : decode cX7_findFactor 70 = .ok (.invokevirtual 181, 3) := by decide +kernel
set_option maxRecDepth 20000 in
theorem dX7_findFactor_73 : decode cX7_findFactor 73 = .ok (.return_, 1) := by decide +kernel
def f_X7_findFactor_65 (N : Nat) (c_board_askers : Int32) (c_board_places : Int32) (c_board_seats : Nat → Int32) (c_board_told : Nat → Int32) (c_board_wishes : Nat → Int32) (c_above : Int64) (c_below : Int64) (c_aimed_askers : Int32) (c_aimed_places : Int32) (c_aimed_seatBits : Int32) (c_aimed_entries : Int32) (c_row : Nat → Int32) (c_aimed_best : Nat → Int32) (c_aimed_clipAll : Nat → Int32) (c_aimed_clipToOne : Nat → Int32) (c_aimed_clipToTwo : Nat → Int32) (c_aimed_firstOf : Nat → Int32) (c_aimed_gains : Nat → Int32) (c_aimed_left : Nat → Int32) (c_aimed_next : Nat → Int32) (c_aimed_solvedGains : Nat → Int32) (c_aimed_ways : Nat → Int32) (c_all_slots : Nat → Int32) (v2 : Int32) (v3 : Int32) : Option (Int64 × Int64 × Int32 × Int32 × Int32 × Int32 × (Nat → Int32) × (Nat → Int32) × (Nat → Int32) × (Nat → Int32) × (Nat → Int32) × (Nat → Int32) × (Nat → Int32) × (Nat → Int32) × (Nat → Int32) × (Nat → Int32) × (Nat → Int32) × (Nat → Int32)) :=
    (f_X7_tellFraction N c_above c_below v2.toInt64 v3.toInt64).bind fun (o1, o2) =>
    some (o1, o2, c_aimed_askers, c_aimed_places, c_aimed_seatBits, c_aimed_entries, c_row, c_aimed_best, c_aimed_clipAll, c_aimed_clipToOne, c_aimed_clipToTwo, c_aimed_firstOf, c_aimed_gains, c_aimed_left, c_aimed_next, c_aimed_solvedGains, c_aimed_ways, c_all_slots)
set_option maxHeartbeats 4000000 in
set_option maxRecDepth 100000 in
theorem g_X7_findFactor_65 {κ : KC} {ω : KW} {A : Nat → Prop} {ad : Nat → Nat} {u_board_age : Int32} {N : Nat} {c_board_askers : Int32} {c_board_places : Int32} {c_board_seats : Nat → Int32} {c_board_told : Nat → Int32} {c_board_wishes : Nat → Int32}  {res : Int64 × Int64 × Int32 × Int32 × Int32 × Int32 × (Nat → Int32) × (Nat → Int32) × (Nat → Int32) × (Nat → Int32) × (Nat → Int32) × (Nat → Int32) × (Nat → Int32) × (Nat → Int32) × (Nat → Int32) × (Nat → Int32) × (Nat → Int32) × (Nat → Int32)} {c_above : Int64} {c_below : Int64} {c_aimed_askers : Int32} {c_aimed_places : Int32} {c_aimed_seatBits : Int32} {c_aimed_entries : Int32} {c_row : Nat → Int32} {c_aimed_best : Nat → Int32} {c_aimed_clipAll : Nat → Int32} {c_aimed_clipToOne : Nat → Int32} {c_aimed_clipToTwo : Nat → Int32} {c_aimed_firstOf : Nat → Int32} {c_aimed_gains : Nat → Int32} {c_aimed_left : Nat → Int32} {c_aimed_next : Nat → Int32} {c_aimed_solvedGains : Nat → Int32} {c_aimed_ways : Nat → Int32} {c_all_slots : Nat → Int32} {v2 : Int32} {v3 : Int32} (hf : f_X7_findFactor_65 N c_board_askers c_board_places c_board_seats c_board_told c_board_wishes c_above c_below c_aimed_askers c_aimed_places c_aimed_seatBits c_aimed_entries c_row c_aimed_best c_aimed_clipAll c_aimed_clipToOne c_aimed_clipToTwo c_aimed_firstOf c_aimed_gains c_aimed_left c_aimed_next c_aimed_solvedGains c_aimed_ways c_all_slots v2 v3 = some res) : GG mu_X7_findFactor κ ω A (QR κ ω A ad (none) (w_X7_findFactor res.1 res.2.1 res.2.2.1 res.2.2.2.1 res.2.2.2.2.1 res.2.2.2.2.2.1 c_board_askers c_board_places res.2.2.2.2.2.2.1 res.2.2.2.2.2.2.2.1 res.2.2.2.2.2.2.2.2.1 res.2.2.2.2.2.2.2.2.2.1 res.2.2.2.2.2.2.2.2.2.2.1 res.2.2.2.2.2.2.2.2.2.2.2.1 res.2.2.2.2.2.2.2.2.2.2.2.2.1 res.2.2.2.2.2.2.2.2.2.2.2.2.2.1 res.2.2.2.2.2.2.2.2.2.2.2.2.2.2.1 res.2.2.2.2.2.2.2.2.2.2.2.2.2.2.2.1 res.2.2.2.2.2.2.2.2.2.2.2.2.2.2.2.2.1 res.2.2.2.2.2.2.2.2.2.2.2.2.2.2.2.2.2 c_board_seats c_board_told c_board_wishes u_board_age)) ad 0 0 65 (w_X7_findFactor c_above c_below c_aimed_askers c_aimed_places c_aimed_seatBits c_aimed_entries c_board_askers c_board_places c_row c_aimed_best c_aimed_clipAll c_aimed_clipToOne c_aimed_clipToTwo c_aimed_firstOf c_aimed_gains c_aimed_left c_aimed_next c_aimed_solvedGains c_aimed_ways c_all_slots c_board_seats c_board_told c_board_wishes u_board_age) [some (.ref 0), none, some (.int v2), some (.int v3), none] [] := by
  refine G_aload_n dX7_findFactor_65 rfl rfl ?_
  refine G_iload_n dX7_findFactor_66 rfl rfl ?_
  refine G_i2l dX7_findFactor_67 ?_
  refine G_iload_n dX7_findFactor_68 rfl rfl ?_
  refine G_i2l dX7_findFactor_69 ?_
  obtain ⟨⟨o1, o2⟩, hc3, hf⟩ := ob hf
  refine G_callV (μ2 := mu_X7_tellFraction) (As := [.long v2.toInt64, .long v3.toInt64]) (w2 := (w_X7_findFactor o1 o2 c_aimed_askers c_aimed_places c_aimed_seatBits c_aimed_entries c_board_askers c_board_places c_row c_aimed_best c_aimed_clipAll c_aimed_clipToOne c_aimed_clipToTwo c_aimed_firstOf c_aimed_gains c_aimed_left c_aimed_next c_aimed_solvedGains c_aimed_ways c_all_slots c_board_seats c_board_told c_board_wishes u_board_age)) (wc := (w_X7_tellFraction c_above c_below)) (wc2 := (w_X7_tellFraction o1 o2)) (rest := []) (rv := []) [0] [2, 1000, 1001, 1, 1002, 1003, 1004, 1005, 1006, 3] [1, 2, 3, 4, 5, 6, 7, 8, 9, 10, 11, 12, 13, 14, 15, 16, 17] [17, 0, 1, 2, 3, 4, 5, 6, 7, 8, 9, 10, 11, 12, 13, 14, 15, 16] (c_X7_tellFraction hc3) cw_X7_tellFraction m_X7_181 dX7_findFactor_70 rfl ⟨leb rfl, leb rfl⟩ ⟨rfl, rfl⟩ rfl ⟨_, rfl, rfl⟩ (Fit.mk rfl rfl rfl) rfl (leb rfl) (ROsub.nil rfl rfl) rfl ?_
  change GG _ _ _ _ _ _ _ _ _ (w_X7_findFactor o1 o2 c_aimed_askers c_aimed_places c_aimed_seatBits c_aimed_entries c_board_askers c_board_places c_row c_aimed_best c_aimed_clipAll c_aimed_clipToOne c_aimed_clipToTwo c_aimed_firstOf c_aimed_gains c_aimed_left c_aimed_next c_aimed_solvedGains c_aimed_ways c_all_slots c_board_seats c_board_told c_board_wishes u_board_age) [some (.ref 0), none, some (.int v2), some (.int v3), none] []
  obtain rfl := os hf
  exact G_return dX7_findFactor_73 rfl
def f_X7_findFactor_7 (N : Nat) (c_board_askers : Int32) (c_board_places : Int32) (c_board_seats : Nat → Int32) (c_board_told : Nat → Int32) (c_board_wishes : Nat → Int32) : Nat → Int64 → Int64 → Int32 → Int32 → Int32 → Int32 → (Nat → Int32) → (Nat → Int32) → (Nat → Int32) → (Nat → Int32) → (Nat → Int32) → (Nat → Int32) → (Nat → Int32) → (Nat → Int32) → (Nat → Int32) → (Nat → Int32) → (Nat → Int32) → (Nat → Int32) → Int32 → Int32 → Int32 → Int32 → Option (Int64 × Int64 × Int32 × Int32 × Int32 × Int32 × (Nat → Int32) × (Nat → Int32) × (Nat → Int32) × (Nat → Int32) × (Nat → Int32) × (Nat → Int32) × (Nat → Int32) × (Nat → Int32) × (Nat → Int32) × (Nat → Int32) × (Nat → Int32) × (Nat → Int32))
  | 0, _, _, _, _, _, _, _, _, _, _, _, _, _, _, _, _, _, _, _, _, _, _ => none
  | n + 1, c_above, c_below, c_aimed_askers, c_aimed_places, c_aimed_seatBits, c_aimed_entries, c_row, c_aimed_best, c_aimed_clipAll, c_aimed_clipToOne, c_aimed_clipToTwo, c_aimed_firstOf, c_aimed_gains, c_aimed_left, c_aimed_next, c_aimed_solvedGains, c_aimed_ways, c_all_slots, v1, v2, v3, v4 =>
    (if 64 ≤ v4 then
      f_X7_findFactor_65 N c_board_askers c_board_places c_board_seats c_board_told c_board_wishes c_above c_below c_aimed_askers c_aimed_places c_aimed_seatBits c_aimed_entries c_row c_aimed_best c_aimed_clipAll c_aimed_clipToOne c_aimed_clipToTwo c_aimed_firstOf c_aimed_gains c_aimed_left c_aimed_next c_aimed_solvedGains c_aimed_ways c_all_slots v2 v3
    else
      (f_X7_solveVotes N c_board_askers c_board_places c_board_seats c_board_told c_board_wishes c_aimed_askers c_aimed_places c_aimed_seatBits c_aimed_entries c_aimed_best c_aimed_clipAll c_aimed_clipToOne c_aimed_clipToTwo c_aimed_firstOf c_aimed_gains c_aimed_left c_aimed_next c_aimed_solvedGains c_aimed_ways c_all_slots v1 v3 (-v2)).bind fun (o2, o3, o4, o5, o6, o7, o8, o9, o10, o11, o12, o13, o14, o15, o16) =>
      (f_X4_bestGain N o6).bind fun r18 =>
      (if 0 < r18 then
        (f_X4_pathTo N o2 o3 o6 o13 o14 o15 c_row 0).bind fun o21 =>
        (f_X7_countRisers N c_board_askers o21 c_board_told c_board_wishes v1).bind fun r23 =>
        (f_X7_countFallers N c_board_askers o21 c_board_told c_board_wishes v1).bind fun r25 =>
        f_X7_findFactor_7 N c_board_askers c_board_places c_board_seats c_board_told c_board_wishes n c_above c_below o2 o3 o4 o5 o21 o6 o7 o8 o9 o10 o11 o12 o13 o14 o15 o16 v1 r23 r25 (v4 + 1)
      else
        f_X7_findFactor_65 N c_board_askers c_board_places c_board_seats c_board_told c_board_wishes c_above c_below o2 o3 o4 o5 c_row o6 o7 o8 o9 o10 o11 o12 o13 o14 o15 o16 v2 v3))
set_option maxHeartbeats 4000000 in
set_option maxRecDepth 100000 in
theorem g_X7_findFactor_7 {κ : KC} {ω : KW} {A : Nat → Prop} {ad : Nat → Nat} {u_board_age : Int32} {N : Nat} {c_board_askers : Int32} {c_board_places : Int32} {c_board_seats : Nat → Int32} {c_board_told : Nat → Int32} {c_board_wishes : Nat → Int32}  {res : Int64 × Int64 × Int32 × Int32 × Int32 × Int32 × (Nat → Int32) × (Nat → Int32) × (Nat → Int32) × (Nat → Int32) × (Nat → Int32) × (Nat → Int32) × (Nat → Int32) × (Nat → Int32) × (Nat → Int32) × (Nat → Int32) × (Nat → Int32) × (Nat → Int32)} : ∀ (n : Nat) {c_above : Int64} {c_below : Int64} {c_aimed_askers : Int32} {c_aimed_places : Int32} {c_aimed_seatBits : Int32} {c_aimed_entries : Int32} {c_row : Nat → Int32} {c_aimed_best : Nat → Int32} {c_aimed_clipAll : Nat → Int32} {c_aimed_clipToOne : Nat → Int32} {c_aimed_clipToTwo : Nat → Int32} {c_aimed_firstOf : Nat → Int32} {c_aimed_gains : Nat → Int32} {c_aimed_left : Nat → Int32} {c_aimed_next : Nat → Int32} {c_aimed_solvedGains : Nat → Int32} {c_aimed_ways : Nat → Int32} {c_all_slots : Nat → Int32} {v1 : Int32} {v2 : Int32} {v3 : Int32} {v4 : Int32}, f_X7_findFactor_7 N c_board_askers c_board_places c_board_seats c_board_told c_board_wishes n c_above c_below c_aimed_askers c_aimed_places c_aimed_seatBits c_aimed_entries c_row c_aimed_best c_aimed_clipAll c_aimed_clipToOne c_aimed_clipToTwo c_aimed_firstOf c_aimed_gains c_aimed_left c_aimed_next c_aimed_solvedGains c_aimed_ways c_all_slots v1 v2 v3 v4 = some res → GG mu_X7_findFactor κ ω A (QR κ ω A ad (none) (w_X7_findFactor res.1 res.2.1 res.2.2.1 res.2.2.2.1 res.2.2.2.2.1 res.2.2.2.2.2.1 c_board_askers c_board_places res.2.2.2.2.2.2.1 res.2.2.2.2.2.2.2.1 res.2.2.2.2.2.2.2.2.1 res.2.2.2.2.2.2.2.2.2.1 res.2.2.2.2.2.2.2.2.2.2.1 res.2.2.2.2.2.2.2.2.2.2.2.1 res.2.2.2.2.2.2.2.2.2.2.2.2.1 res.2.2.2.2.2.2.2.2.2.2.2.2.2.1 res.2.2.2.2.2.2.2.2.2.2.2.2.2.2.1 res.2.2.2.2.2.2.2.2.2.2.2.2.2.2.2.1 res.2.2.2.2.2.2.2.2.2.2.2.2.2.2.2.2.1 res.2.2.2.2.2.2.2.2.2.2.2.2.2.2.2.2.2 c_board_seats c_board_told c_board_wishes u_board_age)) ad 0 0 7 (w_X7_findFactor c_above c_below c_aimed_askers c_aimed_places c_aimed_seatBits c_aimed_entries c_board_askers c_board_places c_row c_aimed_best c_aimed_clipAll c_aimed_clipToOne c_aimed_clipToTwo c_aimed_firstOf c_aimed_gains c_aimed_left c_aimed_next c_aimed_solvedGains c_aimed_ways c_all_slots c_board_seats c_board_told c_board_wishes u_board_age) [some (.ref 0), some (.int v1), some (.int v2), some (.int v3), some (.int v4)] [] := by
  intro n
  induction n with
  | zero => intro c_above c_below c_aimed_askers c_aimed_places c_aimed_seatBits c_aimed_entries c_row c_aimed_best c_aimed_clipAll c_aimed_clipToOne c_aimed_clipToTwo c_aimed_firstOf c_aimed_gains c_aimed_left c_aimed_next c_aimed_solvedGains c_aimed_ways c_all_slots v1 v2 v3 v4 hf; exact ob_0 hf
  | succ n ih =>
    intro c_above c_below c_aimed_askers c_aimed_places c_aimed_seatBits c_aimed_entries c_row c_aimed_best c_aimed_clipAll c_aimed_clipToOne c_aimed_clipToTwo c_aimed_firstOf c_aimed_gains c_aimed_left c_aimed_next c_aimed_solvedGains c_aimed_ways c_all_slots v1 v2 v3 v4 hf
    refine G_iload dX7_findFactor_7 rfl ?_
    refine G_bipush 64 dX7_findFactor_9 (by decide) ?_
    refine G_icmp_ge 65 dX7_findFactor_11 (by decide) (fun h1 => ?_) (fun h1 => ?_)
    · replace hf := ob_t h1 hf
      refine GG.sb (lv2 := [some (.ref 0), none, some (.int v2), some (.int v3), none]) ?_ (lvS_v rfl (lvS_n (lvS_v rfl (lvS_v rfl (lvS_n (lvS_e))))))
      exact g_X7_findFactor_65 hf
    · replace hf := ob_f h1 hf
      refine G_aload_n dX7_findFactor_14 rfl rfl ?_
      refine G_iload_n dX7_findFactor_15 rfl rfl ?_
      refine G_iload_n dX7_findFactor_16 rfl rfl ?_
      refine G_iload_n dX7_findFactor_17 rfl rfl ?_
      refine G_ineg dX7_findFactor_18 ?_
      obtain ⟨⟨o2, o3, o4, o5, o6, o7, o8, o9, o10, o11, o12, o13, o14, o15, o16⟩, hc17, hf⟩ := ob hf
      refine G_callV (μ2 := mu_X7_solveVotes) (As := [.int v1, .int v3, .int (-v2)]) (w2 := (w_X7_findFactor c_above c_below o2 o3 o4 o5 c_board_askers c_board_places c_row o6 o7 o8 o9 o10 o11 o12 o13 o14 o15 o16 c_board_seats c_board_told c_board_wishes u_board_age)) (wc := (w_X7_solveVotes c_aimed_askers c_aimed_places c_aimed_seatBits c_aimed_entries c_board_askers c_board_places c_aimed_best c_aimed_clipAll c_aimed_clipToOne c_aimed_clipToTwo c_aimed_firstOf c_aimed_gains c_aimed_left c_aimed_next c_aimed_solvedGains c_aimed_ways c_all_slots c_board_seats c_board_told c_board_wishes c_above c_below u_board_age)) (wc2 := (w_X7_solveVotes o2 o3 o4 o5 c_board_askers c_board_places o6 o7 o8 o9 o10 o11 o12 o13 o14 o15 o16 c_board_seats c_board_told c_board_wishes c_above c_below u_board_age)) (rest := []) (rv := []) [0, 1, 2, 4, 5, 6, 7, 8, 9, 10, 11, 12, 13, 14, 15, 16, 17] [1000, 1001, 1002, 1003, 1004, 1005, 1006, 3, 1007] [3] [1, 2, 3, 0, 4, 5, 6, 7, 8, 9, 10, 11, 12, 13, 14, 15, 16, 17] (c_X7_solveVotes hc17) cw_X7_solveVotes m_X7_172 dX7_findFactor_19 rfl ⟨leb rfl, leb rfl⟩ ⟨rfl, rfl⟩ rfl ⟨_, rfl, rfl⟩ (Fit.mk rfl rfl rfl) rfl (leb rfl) (ROsub.nil rfl rfl) rfl ?_
      change GG _ _ _ _ _ _ _ _ _ (w_X7_findFactor c_above c_below o2 o3 o4 o5 c_board_askers c_board_places c_row o6 o7 o8 o9 o10 o11 o12 o13 o14 o15 o16 c_board_seats c_board_told c_board_wishes u_board_age) [some (.ref 0), some (.int v1), some (.int v2), some (.int v3), some (.int v4)] []
      refine G_aload_n dX7_findFactor_22 rfl rfl ?_
      refine G_get (v := .ref 1) F_X7_28 dX7_findFactor_23 rfl rfl ?_
      obtain ⟨r18, hc19, hf⟩ := ob hf
      refine G_callV (μ2 := mu_X4_bestGain) (As := []) (w2 := (w_X7_findFactor c_above c_below o2 o3 o4 o5 c_board_askers c_board_places c_row o6 o7 o8 o9 o10 o11 o12 o13 o14 o15 o16 c_board_seats c_board_told c_board_wishes u_board_age)) (wc := (w_X4_bestGain o6 o2 o3 o4 o5)) (wc2 := (w_X4_bestGain o6 o2 o3 o4 o5)) (rest := []) (rv := [.int r18]) [1, 4] [2, 9, 12, 10, 13, 11, 8, 14, 5, 6, 7] [0, 2, 3, 5, 6, 7, 8, 9, 10, 11, 12, 13, 14, 15, 16, 17] [0, 16, 1, 2, 17, 3, 4, 5, 6, 7, 8, 9, 10, 11, 12, 13, 14, 15] (c_X4_bestGain hc19) cw_X4_bestGain m_X7_175 dX7_findFactor_26 rfl ⟨leb rfl, leb rfl⟩ ⟨rfl, rfl⟩ rfl ⟨_, rfl, rfl⟩ (Fit.mk rfl rfl rfl) rfl (leb rfl) (ROsub.nil rfl rfl) rfl ?_
      change GG _ _ _ _ _ _ _ _ _ (w_X7_findFactor c_above c_below o2 o3 o4 o5 c_board_askers c_board_places c_row o6 o7 o8 o9 o10 o11 o12 o13 o14 o15 o16 c_board_seats c_board_told c_board_wishes u_board_age) [some (.ref 0), some (.int v1), some (.int v2), some (.int v3), some (.int v4)] [.int r18]
      refine G_if_gt 35 dX7_findFactor_29 (by decide) (fun h20 => ?_) (fun h20 => ?_)
      · replace hf := ob_t h20 hf
        refine G_aload_n dX7_findFactor_35 rfl rfl ?_
        refine G_get (v := .ref 1) F_X7_28 dX7_findFactor_36 rfl rfl ?_
        refine G_iconst 0 dX7_findFactor_39 (by decide) ?_
        refine G_aload_n dX7_findFactor_40 rfl rfl ?_
        refine G_get (v := .ref 3) F_X7_68 dX7_findFactor_41 rfl rfl ?_
        obtain ⟨o21, hc22, hf⟩ := ob hf
        refine G_callV (μ2 := mu_X4_pathTo) (As := [.int 0, .ref 1]) (w2 := (w_X7_findFactor c_above c_below o2 o3 o4 o5 c_board_askers c_board_places o21 o6 o7 o8 o9 o10 o11 o12 o13 o14 o15 o16 c_board_seats c_board_told c_board_wishes u_board_age)) (wc := (w_X4_pathTo o2 o3 c_row o6 o13 o14 o15 o4 o5)) (wc2 := (w_X4_pathTo o2 o3 o21 o6 o13 o14 o15 o4 o5)) (rest := []) (rv := []) [1, 3, 4, 11, 12, 13] [2, 9, 10, 8, 14, 5, 6, 7] [0, 2, 5, 6, 7, 8, 9, 10, 14, 15, 16, 17] [0, 12, 1, 13, 14, 2, 3, 4, 5, 6, 7, 15, 16, 17, 8, 9, 10, 11] (c_X4_pathTo hc22) cw_X4_pathTo m_X7_131 dX7_findFactor_44 rfl ⟨leb rfl, leb rfl⟩ ⟨rfl, rfl⟩ rfl ⟨_, rfl, rfl⟩ (Fit.mk rfl rfl rfl) rfl (leb rfl) (ROsub.nil rfl rfl) rfl ?_
        change GG _ _ _ _ _ _ _ _ _ (w_X7_findFactor c_above c_below o2 o3 o4 o5 c_board_askers c_board_places o21 o6 o7 o8 o9 o10 o11 o12 o13 o14 o15 o16 c_board_seats c_board_told c_board_wishes u_board_age) [some (.ref 0), some (.int v1), some (.int v2), some (.int v3), some (.int v4)] []
        refine G_aload_n dX7_findFactor_47 rfl rfl ?_
        refine G_iload_n dX7_findFactor_48 rfl rfl ?_
        obtain ⟨r23, hc24, hf⟩ := ob hf
        refine G_callV (μ2 := mu_X7_countRisers) (As := [.int v1]) (w2 := (w_X7_findFactor c_above c_below o2 o3 o4 o5 c_board_askers c_board_places o21 o6 o7 o8 o9 o10 o11 o12 o13 o14 o15 o16 c_board_seats c_board_told c_board_wishes u_board_age)) (wc := (w_X7_countRisers c_board_askers o21 c_board_told c_board_wishes c_above c_below c_board_places u_board_age)) (wc2 := (w_X7_countRisers c_board_askers o21 c_board_told c_board_wishes c_above c_below c_board_places u_board_age)) (rest := []) (rv := [.int r23]) [0, 2, 3, 16, 17] [1000, 1001, 1, 1002, 1003, 1004, 1005, 1006, 15, 1007] [1, 4, 5, 6, 7, 8, 9, 10, 11, 12, 13, 14, 15] [13, 0, 14, 15, 1, 2, 3, 4, 5, 6, 7, 8, 9, 10, 11, 12, 16, 17] (c_X7_countRisers hc24) cw_X7_countRisers m_X7_166 dX7_findFactor_49 rfl ⟨leb rfl, leb rfl⟩ ⟨rfl, rfl⟩ rfl ⟨_, rfl, rfl⟩ (Fit.mk rfl rfl rfl) rfl (leb rfl) (ROsub.nil rfl rfl) rfl ?_
        change GG _ _ _ _ _ _ _ _ _ (w_X7_findFactor c_above c_below o2 o3 o4 o5 c_board_askers c_board_places o21 o6 o7 o8 o9 o10 o11 o12 o13 o14 o15 o16 c_board_seats c_board_told c_board_wishes u_board_age) [some (.ref 0), some (.int v1), some (.int v2), some (.int v3), some (.int v4)] [.int r23]
        refine G_istore_n dX7_findFactor_52 rfl (ltb rfl) ?_
        change GG _ _ _ _ _ _ _ _ _ _ [some (.ref 0), some (.int v1), some (.int r23), some (.int v3), some (.int v4)] _
        refine G_aload_n dX7_findFactor_53 rfl rfl ?_
        refine G_iload_n dX7_findFactor_54 rfl rfl ?_
        obtain ⟨r25, hc26, hf⟩ := ob hf
        refine G_callV (μ2 := mu_X7_countFallers) (As := [.int v1]) (w2 := (w_X7_findFactor c_above c_below o2 o3 o4 o5 c_board_askers c_board_places o21 o6 o7 o8 o9 o10 o11 o12 o13 o14 o15 o16 c_board_seats c_board_told c_board_wishes u_board_age)) (wc := (w_X7_countFallers c_board_askers o21 c_board_told c_board_wishes c_above c_below c_board_places u_board_age)) (wc2 := (w_X7_countFallers c_board_askers o21 c_board_told c_board_wishes c_above c_below c_board_places u_board_age)) (rest := []) (rv := [.int r25]) [0, 2, 3, 16, 17] [1000, 1001, 1, 1002, 1003, 1004, 1005, 1006, 15, 1007] [1, 4, 5, 6, 7, 8, 9, 10, 11, 12, 13, 14, 15] [13, 0, 14, 15, 1, 2, 3, 4, 5, 6, 7, 8, 9, 10, 11, 12, 16, 17] (c_X7_countFallers hc26) cw_X7_countFallers m_X7_169 dX7_findFactor_55 rfl ⟨leb rfl, leb rfl⟩ ⟨rfl, rfl⟩ rfl ⟨_, rfl, rfl⟩ (Fit.mk rfl rfl rfl) rfl (leb rfl) (ROsub.nil rfl rfl) rfl ?_
        change GG _ _ _ _ _ _ _ _ _ (w_X7_findFactor c_above c_below o2 o3 o4 o5 c_board_askers c_board_places o21 o6 o7 o8 o9 o10 o11 o12 o13 o14 o15 o16 c_board_seats c_board_told c_board_wishes u_board_age) [some (.ref 0), some (.int v1), some (.int r23), some (.int v3), some (.int v4)] [.int r25]
        refine G_istore_n dX7_findFactor_58 rfl (ltb rfl) ?_
        change GG _ _ _ _ _ _ _ _ _ _ [some (.ref 0), some (.int v1), some (.int r23), some (.int r25), some (.int v4)] _
        refine G_iinc 1 dX7_findFactor_59 (by decide) rfl (ltb rfl) ?_
        change GG _ _ _ _ _ _ _ _ _ _ [some (.ref 0), some (.int v1), some (.int r23), some (.int r25), some (.int (v4 + 1))] _
        refine G_goto 7 dX7_findFactor_62 (by decide) ?_
        exact ih hf
      · replace hf := ob_f h20 hf
        refine G_goto 65 dX7_findFactor_32 (by decide) ?_
        refine GG.sb (lv2 := [some (.ref 0), none, some (.int v2), some (.int v3), none]) ?_ (lvS_v rfl (lvS_n (lvS_v rfl (lvS_v rfl (lvS_n (lvS_e))))))
        exact g_X7_findFactor_65 hf
def f_X7_findFactor (N : Nat) (c_board_askers : Int32) (c_board_places : Int32) (c_board_seats : Nat → Int32) (c_board_told : Nat → Int32) (c_board_wishes : Nat → Int32) (c_above : Int64) (c_below : Int64) (c_aimed_askers : Int32) (c_aimed_places : Int32) (c_aimed_seatBits : Int32) (c_aimed_entries : Int32) (c_row : Nat → Int32) (c_aimed_best : Nat → Int32) (c_aimed_clipAll : Nat → Int32) (c_aimed_clipToOne : Nat → Int32) (c_aimed_clipToTwo : Nat → Int32) (c_aimed_firstOf : Nat → Int32) (c_aimed_gains : Nat → Int32) (c_aimed_left : Nat → Int32) (c_aimed_next : Nat → Int32) (c_aimed_solvedGains : Nat → Int32) (c_aimed_ways : Nat → Int32) (c_all_slots : Nat → Int32) (a1 : Int32) : Option (Int64 × Int64 × Int32 × Int32 × Int32 × Int32 × (Nat → Int32) × (Nat → Int32) × (Nat → Int32) × (Nat → Int32) × (Nat → Int32) × (Nat → Int32) × (Nat → Int32) × (Nat → Int32) × (Nat → Int32) × (Nat → Int32) × (Nat → Int32) × (Nat → Int32)) :=
  f_X7_findFactor_7 N c_board_askers c_board_places c_board_seats c_board_told c_board_wishes N c_above c_below c_aimed_askers c_aimed_places c_aimed_seatBits c_aimed_entries c_row c_aimed_best c_aimed_clipAll c_aimed_clipToOne c_aimed_clipToTwo c_aimed_firstOf c_aimed_gains c_aimed_left c_aimed_next c_aimed_solvedGains c_aimed_ways c_all_slots a1 1 1 0
set_option maxHeartbeats 4000000 in
set_option maxRecDepth 100000 in
theorem c_X7_findFactor {N : Nat} {c_board_askers : Int32} {c_board_places : Int32} {c_board_seats : Nat → Int32} {c_board_told : Nat → Int32} {c_board_wishes : Nat → Int32} {c_above : Int64} {c_below : Int64} {c_aimed_askers : Int32} {c_aimed_places : Int32} {c_aimed_seatBits : Int32} {c_aimed_entries : Int32} {c_row : Nat → Int32} {c_aimed_best : Nat → Int32} {c_aimed_clipAll : Nat → Int32} {c_aimed_clipToOne : Nat → Int32} {c_aimed_clipToTwo : Nat → Int32} {c_aimed_firstOf : Nat → Int32} {c_aimed_gains : Nat → Int32} {c_aimed_left : Nat → Int32} {c_aimed_next : Nat → Int32} {c_aimed_solvedGains : Nat → Int32} {c_aimed_ways : Nat → Int32} {c_all_slots : Nat → Int32} {u_board_age : Int32} {a1 : Int32} {res : Int64 × Int64 × Int32 × Int32 × Int32 × Int32 × (Nat → Int32) × (Nat → Int32) × (Nat → Int32) × (Nat → Int32) × (Nat → Int32) × (Nat → Int32) × (Nat → Int32) × (Nat → Int32) × (Nat → Int32) × (Nat → Int32) × (Nat → Int32) × (Nat → Int32)} (hf : f_X7_findFactor N c_board_askers c_board_places c_board_seats c_board_told c_board_wishes c_above c_below c_aimed_askers c_aimed_places c_aimed_seatBits c_aimed_entries c_row c_aimed_best c_aimed_clipAll c_aimed_clipToOne c_aimed_clipToTwo c_aimed_firstOf c_aimed_gains c_aimed_left c_aimed_next c_aimed_solvedGains c_aimed_ways c_all_slots a1 = some res) : Con mu_X7_findFactor [.ref 0, .int a1] (w_X7_findFactor c_above c_below c_aimed_askers c_aimed_places c_aimed_seatBits c_aimed_entries c_board_askers c_board_places c_row c_aimed_best c_aimed_clipAll c_aimed_clipToOne c_aimed_clipToTwo c_aimed_firstOf c_aimed_gains c_aimed_left c_aimed_next c_aimed_solvedGains c_aimed_ways c_all_slots c_board_seats c_board_told c_board_wishes u_board_age) (none) (w_X7_findFactor res.1 res.2.1 res.2.2.1 res.2.2.2.1 res.2.2.2.2.1 res.2.2.2.2.2.1 c_board_askers c_board_places res.2.2.2.2.2.2.1 res.2.2.2.2.2.2.2.1 res.2.2.2.2.2.2.2.2.1 res.2.2.2.2.2.2.2.2.2.1 res.2.2.2.2.2.2.2.2.2.2.1 res.2.2.2.2.2.2.2.2.2.2.2.1 res.2.2.2.2.2.2.2.2.2.2.2.2.1 res.2.2.2.2.2.2.2.2.2.2.2.2.2.1 res.2.2.2.2.2.2.2.2.2.2.2.2.2.2.1 res.2.2.2.2.2.2.2.2.2.2.2.2.2.2.2.1 res.2.2.2.2.2.2.2.2.2.2.2.2.2.2.2.2.1 res.2.2.2.2.2.2.2.2.2.2.2.2.2.2.2.2.2 c_board_seats c_board_told c_board_wishes u_board_age) := by
  refine Con.mk (show plainName RX7 = true by decide +kernel) (leb rfl) (fun κ ω A ad => ?_)
  change GG mu_X7_findFactor κ ω A (QR κ ω A ad (none) (w_X7_findFactor res.1 res.2.1 res.2.2.1 res.2.2.2.1 res.2.2.2.2.1 res.2.2.2.2.2.1 c_board_askers c_board_places res.2.2.2.2.2.2.1 res.2.2.2.2.2.2.2.1 res.2.2.2.2.2.2.2.2.1 res.2.2.2.2.2.2.2.2.2.1 res.2.2.2.2.2.2.2.2.2.2.1 res.2.2.2.2.2.2.2.2.2.2.2.1 res.2.2.2.2.2.2.2.2.2.2.2.2.1 res.2.2.2.2.2.2.2.2.2.2.2.2.2.1 res.2.2.2.2.2.2.2.2.2.2.2.2.2.2.1 res.2.2.2.2.2.2.2.2.2.2.2.2.2.2.2.1 res.2.2.2.2.2.2.2.2.2.2.2.2.2.2.2.2.1 res.2.2.2.2.2.2.2.2.2.2.2.2.2.2.2.2.2 c_board_seats c_board_told c_board_wishes u_board_age)) ad 0 0 0 (w_X7_findFactor c_above c_below c_aimed_askers c_aimed_places c_aimed_seatBits c_aimed_entries c_board_askers c_board_places c_row c_aimed_best c_aimed_clipAll c_aimed_clipToOne c_aimed_clipToTwo c_aimed_firstOf c_aimed_gains c_aimed_left c_aimed_next c_aimed_solvedGains c_aimed_ways c_all_slots c_board_seats c_board_told c_board_wishes u_board_age) [some (.ref 0), some (.int a1), none, none, none] []
  refine G_iconst 1 dX7_findFactor_0 (by decide) ?_
  refine G_istore_n dX7_findFactor_1 rfl (ltb rfl) ?_
  change GG _ _ _ _ _ _ _ _ _ _ [some (.ref 0), some (.int a1), some (.int 1), none, none] _
  refine G_iconst 1 dX7_findFactor_2 (by decide) ?_
  refine G_istore_n dX7_findFactor_3 rfl (ltb rfl) ?_
  change GG _ _ _ _ _ _ _ _ _ _ [some (.ref 0), some (.int a1), some (.int 1), some (.int 1), none] _
  refine G_iconst 0 dX7_findFactor_4 (by decide) ?_
  refine G_istore dX7_findFactor_5 (ltb rfl) ?_
  change GG _ _ _ _ _ _ _ _ _ _ [some (.ref 0), some (.int a1), some (.int 1), some (.int 1), some (.int 0)] _
  exact g_X7_findFactor_7 N hf
set_option maxRecDepth 20000 in
theorem dX7_factor_0 : decode cX7_factor 0 = .ok (.iload_n 1, 1) := by decide +kernel
set_option maxRecDepth 20000 in
theorem dX7_factor_1 : decode cX7_factor 1 = .ok (.invokestatic 135, 3) := by decide +kernel
set_option maxRecDepth 20000 in
theorem dX7_factor_4 : decode cX7_factor 4 = .ok (.ifCond .ne 6, 3) := by decide +kernel
set_option maxRecDepth 20000 in
theorem dX7_factor_7 : decode cX7_factor 7 = .ok (.bipush (-2), 2) := by decide +kernel
set_option maxRecDepth 20000 in
theorem dX7_factor_9 : decode cX7_factor 9 = .ok (.ireturn, 1) := by decide +kernel
set_option maxRecDepth 20000 in
theorem dX7_factor_10 : decode cX7_factor 10 = .ok (.aload_n 0, 1) := by decide +kernel
set_option maxRecDepth 20000 in
theorem dX7_factor_11 : decode cX7_factor 11 = .ok (.iload_n 1, 1) := by decide +kernel
set_option maxRecDepth 20000 in
theorem dX7_factor_12 : decode cX7_factor 12 = .ok (.invokevirtual 178, 3) := by decide +kernel
set_option maxRecDepth 20000 in
theorem dX7_factor_15 : decode cX7_factor 15 = .ok (.ifCond .ne 12, 3) := by decide +kernel
set_option maxRecDepth 20000 in
theorem dX7_factor_18 : decode cX7_factor 18 = .ok (.aload_n 0, 1) := by decide +kernel
set_option maxRecDepth 20000 in
theorem dX7_factor_19 : decode cX7_factor 19 = .ok (.lconst 0, 1) := by decide +kernel
set_option maxRecDepth 20000 in
theorem dX7_factor_20 : decode cX7_factor 20 = .ok (.lconst 1, 1) := by decide +kernel
set_option maxRecDepth 20000 in
theorem dX7_factor_21 : decode cX7_factor 21 = .ok (.invokevirtual 181, 3) := by decide +kernel
set_option maxRecDepth 20000 in
theorem dX7_factor_24 : decode cX7_factor 24 = .ok (.goto 25, 3) := by decide +kernel
set_option maxRecDepth 20000 in
theorem dX7_factor_27 : decode cX7_factor 27 = .ok (.aload_n 0, 1) := by decide +kernel
set_option maxRecDepth 20000 in
theorem dX7_factor_28 : decode cX7_factor 28 = .ok (.iload_n 1, 1) := by decide +kernel
set_option maxRecDepth 20000 in
theorem dX7_factor_29 : decode cX7_factor 29 = .ok (.invokevirtual 185, 3) := by decide +kernel
set_option maxRecDepth 20000 in
theorem dX7_factor_32 : decode cX7_factor 32 = .ok (.ifCond .le 12, 3) := by decide +kernel
set_option maxRecDepth 20000 in
theorem dX7_factor_35 : decode cX7_factor 35 = .ok (.aload_n 0, 1) := by decide +kernel
set_option maxRecDepth 20000 in
theorem dX7_factor_36 : decode cX7_factor 36 = .ok (.lconst 1, 1) := by decide +kernel
set_option maxRecDepth 20000 in
theorem dX7_factor_37 : decode cX7_factor 37 = .ok (.lconst 0, 1) := by decide +kernel
set_option maxRecDepth 20000 in
theorem dX7_factor_38 : decode cX7_factor 38 = .ok (.invokevirtual 181, 3) := by decide +kernel
set_option maxRecDepth 20000 in
theorem dX7_factor_41 : decode cX7_factor 41 = .ok (.goto 8, 3) := by decide +kernel
set_option maxRecDepth 20000 in
theorem dX7_factor_44 : decode cX7_factor 44 = .ok (.aload_n 0, 1) := by decide +kernel
set_option maxRecDepth 20000 in
theorem dX7_factor_45 : decode cX7_factor 45 = .ok (.iload_n 1, 1) := by decide +kernel
set_option maxRecDepth 20000 in
theorem dX7_factor_46 : decode cX7_factor 46 = .ok (.invokevirtual 188, 3) := by decide +kernel
set_option maxRecDepth 20000 in
theorem dX7_factor_49 : decode cX7_factor 49 = .ok (.iconst 1, 1) := by decide +kernel
set_option maxRecDepth 20000 in
theorem dX7_factor_50 : decode cX7_factor 50 = .ok (.ireturn, 1) := by decide +kernel
def f_X7_factor (N : Nat) (c_board_askers : Int32) (c_board_places : Int32) (c_board_likes : Nat → Int32) (c_board_seats : Nat → Int32) (c_board_told : Nat → Int32) (c_board_wishes : Nat → Int32) (c_above : Int64) (c_below : Int64) (c_aimed_askers : Int32) (c_aimed_places : Int32) (c_aimed_seatBits : Int32) (c_aimed_entries : Int32) (c_row : Nat → Int32) (c_aimed_best : Nat → Int32) (c_aimed_clipAll : Nat → Int32) (c_aimed_clipToOne : Nat → Int32) (c_aimed_clipToTwo : Nat → Int32) (c_aimed_firstOf : Nat → Int32) (c_aimed_gains : Nat → Int32) (c_aimed_left : Nat → Int32) (c_aimed_next : Nat → Int32) (c_aimed_solvedGains : Nat → Int32) (c_aimed_ways : Nat → Int32) (c_all_slots : Nat → Int32) (a1 : Int32) : Option (Int32 × Int64 × Int64 × Int32 × Int32 × Int32 × Int32 × (Nat → Int32) × (Nat → Int32) × (Nat → Int32) × (Nat → Int32) × (Nat → Int32) × (Nat → Int32) × (Nat → Int32) × (Nat → Int32) × (Nat → Int32) × (Nat → Int32) × (Nat → Int32) × (Nat → Int32)) :=
  (f_X7_isTold N a1).bind fun r1 =>
  (if r1 = 0 then
    some ((-2 : Int32), c_above, c_below, c_aimed_askers, c_aimed_places, c_aimed_seatBits, c_aimed_entries, c_row, c_aimed_best, c_aimed_clipAll, c_aimed_clipToOne, c_aimed_clipToTwo, c_aimed_firstOf, c_aimed_gains, c_aimed_left, c_aimed_next, c_aimed_solvedGains, c_aimed_ways, c_all_slots)
  else
    (f_X7_canAnyRise N c_board_askers c_board_likes c_board_told c_board_wishes a1).bind fun r4 =>
    (if r4 = 0 then
      (f_X7_tellFraction N c_above c_below 0 1).bind fun (o47, o48) =>
      some (1, o47, o48, c_aimed_askers, c_aimed_places, c_aimed_seatBits, c_aimed_entries, c_row, c_aimed_best, c_aimed_clipAll, c_aimed_clipToOne, c_aimed_clipToTwo, c_aimed_firstOf, c_aimed_gains, c_aimed_left, c_aimed_next, c_aimed_solvedGains, c_aimed_ways, c_all_slots)
    else
      (f_X7_better N c_board_askers c_board_places c_board_seats c_board_told c_board_wishes c_aimed_askers c_aimed_places c_aimed_seatBits c_aimed_entries c_aimed_best c_aimed_clipAll c_aimed_clipToOne c_aimed_clipToTwo c_aimed_firstOf c_aimed_gains c_aimed_left c_aimed_next c_aimed_solvedGains c_aimed_ways c_all_slots a1).bind fun (r7, o8, o9, o10, o11, o12, o13, o14, o15, o16, o17, o18, o19, o20, o21, o22) =>
      (if r7 ≤ 0 then
        (f_X7_findFactor N c_board_askers c_board_places c_board_seats c_board_told c_board_wishes c_above c_below o8 o9 o10 o11 c_row o12 o13 o14 o15 o16 o17 o18 o19 o20 o21 o22 a1).bind fun (o25, o26, o27, o28, o29, o30, o31, o32, o33, o34, o35, o36, o37, o38, o39, o40, o41, o42) =>
        some (1, o25, o26, o27, o28, o29, o30, o31, o32, o33, o34, o35, o36, o37, o38, o39, o40, o41, o42)
      else
        (f_X7_tellFraction N c_above c_below 1 0).bind fun (o44, o45) =>
        some (1, o44, o45, o8, o9, o10, o11, c_row, o12, o13, o14, o15, o16, o17, o18, o19, o20, o21, o22))))
set_option maxHeartbeats 4000000 in
set_option maxRecDepth 100000 in
theorem c_X7_factor {N : Nat} {c_board_askers : Int32} {c_board_places : Int32} {c_board_likes : Nat → Int32} {c_board_seats : Nat → Int32} {c_board_told : Nat → Int32} {c_board_wishes : Nat → Int32} {c_above : Int64} {c_below : Int64} {c_aimed_askers : Int32} {c_aimed_places : Int32} {c_aimed_seatBits : Int32} {c_aimed_entries : Int32} {c_row : Nat → Int32} {c_aimed_best : Nat → Int32} {c_aimed_clipAll : Nat → Int32} {c_aimed_clipToOne : Nat → Int32} {c_aimed_clipToTwo : Nat → Int32} {c_aimed_firstOf : Nat → Int32} {c_aimed_gains : Nat → Int32} {c_aimed_left : Nat → Int32} {c_aimed_next : Nat → Int32} {c_aimed_solvedGains : Nat → Int32} {c_aimed_ways : Nat → Int32} {c_all_slots : Nat → Int32} {u_board_age : Int32} {a1 : Int32} {res : Int32 × Int64 × Int64 × Int32 × Int32 × Int32 × Int32 × (Nat → Int32) × (Nat → Int32) × (Nat → Int32) × (Nat → Int32) × (Nat → Int32) × (Nat → Int32) × (Nat → Int32) × (Nat → Int32) × (Nat → Int32) × (Nat → Int32) × (Nat → Int32) × (Nat → Int32)} (hf : f_X7_factor N c_board_askers c_board_places c_board_likes c_board_seats c_board_told c_board_wishes c_above c_below c_aimed_askers c_aimed_places c_aimed_seatBits c_aimed_entries c_row c_aimed_best c_aimed_clipAll c_aimed_clipToOne c_aimed_clipToTwo c_aimed_firstOf c_aimed_gains c_aimed_left c_aimed_next c_aimed_solvedGains c_aimed_ways c_all_slots a1 = some res) : Con mu_X7_factor [.ref 0, .int a1] (w_X7_factor c_above c_below c_aimed_askers c_aimed_places c_aimed_seatBits c_aimed_entries c_board_askers c_board_places c_row c_aimed_best c_aimed_clipAll c_aimed_clipToOne c_aimed_clipToTwo c_aimed_firstOf c_aimed_gains c_aimed_left c_aimed_next c_aimed_solvedGains c_aimed_ways c_all_slots c_board_likes c_board_seats c_board_told c_board_wishes u_board_age) (some (.int res.1)) (w_X7_factor res.2.1 res.2.2.1 res.2.2.2.1 res.2.2.2.2.1 res.2.2.2.2.2.1 res.2.2.2.2.2.2.1 c_board_askers c_board_places res.2.2.2.2.2.2.2.1 res.2.2.2.2.2.2.2.2.1 res.2.2.2.2.2.2.2.2.2.1 res.2.2.2.2.2.2.2.2.2.2.1 res.2.2.2.2.2.2.2.2.2.2.2.1 res.2.2.2.2.2.2.2.2.2.2.2.2.1 res.2.2.2.2.2.2.2.2.2.2.2.2.2.1 res.2.2.2.2.2.2.2.2.2.2.2.2.2.2.1 res.2.2.2.2.2.2.2.2.2.2.2.2.2.2.2.1 res.2.2.2.2.2.2.2.2.2.2.2.2.2.2.2.2.1 res.2.2.2.2.2.2.2.2.2.2.2.2.2.2.2.2.2.1 res.2.2.2.2.2.2.2.2.2.2.2.2.2.2.2.2.2.2 c_board_likes c_board_seats c_board_told c_board_wishes u_board_age) := by
  refine Con.mk (show plainName RX7 = true by decide +kernel) (leb rfl) (fun κ ω A ad => ?_)
  change GG mu_X7_factor κ ω A (QR κ ω A ad (some (.int res.1)) (w_X7_factor res.2.1 res.2.2.1 res.2.2.2.1 res.2.2.2.2.1 res.2.2.2.2.2.1 res.2.2.2.2.2.2.1 c_board_askers c_board_places res.2.2.2.2.2.2.2.1 res.2.2.2.2.2.2.2.2.1 res.2.2.2.2.2.2.2.2.2.1 res.2.2.2.2.2.2.2.2.2.2.1 res.2.2.2.2.2.2.2.2.2.2.2.1 res.2.2.2.2.2.2.2.2.2.2.2.2.1 res.2.2.2.2.2.2.2.2.2.2.2.2.2.1 res.2.2.2.2.2.2.2.2.2.2.2.2.2.2.1 res.2.2.2.2.2.2.2.2.2.2.2.2.2.2.2.1 res.2.2.2.2.2.2.2.2.2.2.2.2.2.2.2.2.1 res.2.2.2.2.2.2.2.2.2.2.2.2.2.2.2.2.2.1 res.2.2.2.2.2.2.2.2.2.2.2.2.2.2.2.2.2.2 c_board_likes c_board_seats c_board_told c_board_wishes u_board_age)) ad 0 0 0 (w_X7_factor c_above c_below c_aimed_askers c_aimed_places c_aimed_seatBits c_aimed_entries c_board_askers c_board_places c_row c_aimed_best c_aimed_clipAll c_aimed_clipToOne c_aimed_clipToTwo c_aimed_firstOf c_aimed_gains c_aimed_left c_aimed_next c_aimed_solvedGains c_aimed_ways c_all_slots c_board_likes c_board_seats c_board_told c_board_wishes u_board_age) [some (.ref 0), some (.int a1)] []
  refine G_iload_n dX7_factor_0 rfl rfl ?_
  obtain ⟨r1, hc2, hf⟩ := ob hf
  refine G_callS (μ2 := mu_X7_isTold) (As := [.int a1]) (w2 := (w_X7_factor c_above c_below c_aimed_askers c_aimed_places c_aimed_seatBits c_aimed_entries c_board_askers c_board_places c_row c_aimed_best c_aimed_clipAll c_aimed_clipToOne c_aimed_clipToTwo c_aimed_firstOf c_aimed_gains c_aimed_left c_aimed_next c_aimed_solvedGains c_aimed_ways c_all_slots c_board_likes c_board_seats c_board_told c_board_wishes u_board_age)) (wc := []) (wc2 := []) (rest := []) (rv := [.int r1]) [] [] [0, 1, 2, 3, 4, 5, 6, 7, 8, 9, 10, 11, 12, 13, 14, 15, 16, 17, 18] [0, 1, 2, 3, 4, 5, 6, 7, 8, 9, 10, 11, 12, 13, 14, 15, 16, 17, 18] (c_X7_isTold hc2) cw_X7_isTold m_X7_135 rfl dX7_factor_1 rfl ⟨leb rfl, leb rfl⟩ ⟨rfl, rfl⟩ (Fit.mk rfl rfl rfl) rfl (leb rfl) (ROsub.nil rfl rfl) rfl ?_
  change GG _ _ _ _ _ _ _ _ _ (w_X7_factor c_above c_below c_aimed_askers c_aimed_places c_aimed_seatBits c_aimed_entries c_board_askers c_board_places c_row c_aimed_best c_aimed_clipAll c_aimed_clipToOne c_aimed_clipToTwo c_aimed_firstOf c_aimed_gains c_aimed_left c_aimed_next c_aimed_solvedGains c_aimed_ways c_all_slots c_board_likes c_board_seats c_board_told c_board_wishes u_board_age) [some (.ref 0), some (.int a1)] [.int r1]
  refine G_if_ne 10 dX7_factor_4 (by decide) (fun h3 => ?_) (fun h3 => ?_)
  · replace hf := ob_f h3 hf
    refine G_aload_n dX7_factor_10 rfl rfl ?_
    refine G_iload_n dX7_factor_11 rfl rfl ?_
    obtain ⟨r4, hc5, hf⟩ := ob hf
    refine G_callV (μ2 := mu_X7_canAnyRise) (As := [.int a1]) (w2 := (w_X7_factor c_above c_below c_aimed_askers c_aimed_places c_aimed_seatBits c_aimed_entries c_board_askers c_board_places c_row c_aimed_best c_aimed_clipAll c_aimed_clipToOne c_aimed_clipToTwo c_aimed_firstOf c_aimed_gains c_aimed_left c_aimed_next c_aimed_solvedGains c_aimed_ways c_all_slots c_board_likes c_board_seats c_board_told c_board_wishes u_board_age)) (wc := (w_X7_canAnyRise c_board_askers c_board_likes c_board_told c_board_wishes c_above c_below c_board_places u_board_age)) (wc2 := (w_X7_canAnyRise c_board_askers c_board_likes c_board_told c_board_wishes c_above c_below c_board_places u_board_age)) (rest := []) (rv := [.int r4]) [0, 2, 15, 17, 18] [1000, 1001, 1, 1002, 1003, 1004, 1005, 1006, 3, 16] [1, 3, 4, 5, 6, 7, 8, 9, 10, 11, 12, 13, 14, 16] [14, 0, 15, 1, 2, 3, 4, 5, 6, 7, 8, 9, 10, 11, 12, 16, 13, 17, 18] (c_X7_canAnyRise hc5) cw_X7_canAnyRise m_X7_178 dX7_factor_12 rfl ⟨leb rfl, leb rfl⟩ ⟨rfl, rfl⟩ rfl ⟨_, rfl, rfl⟩ (Fit.mk rfl rfl rfl) rfl (leb rfl) (ROsub.nil rfl rfl) rfl ?_
    change GG _ _ _ _ _ _ _ _ _ (w_X7_factor c_above c_below c_aimed_askers c_aimed_places c_aimed_seatBits c_aimed_entries c_board_askers c_board_places c_row c_aimed_best c_aimed_clipAll c_aimed_clipToOne c_aimed_clipToTwo c_aimed_firstOf c_aimed_gains c_aimed_left c_aimed_next c_aimed_solvedGains c_aimed_ways c_all_slots c_board_likes c_board_seats c_board_told c_board_wishes u_board_age) [some (.ref 0), some (.int a1)] [.int r4]
    refine G_if_ne 27 dX7_factor_15 (by decide) (fun h6 => ?_) (fun h6 => ?_)
    · replace hf := ob_f h6 hf
      refine G_aload_n dX7_factor_27 rfl rfl ?_
      refine G_iload_n dX7_factor_28 rfl rfl ?_
      obtain ⟨⟨r7, o8, o9, o10, o11, o12, o13, o14, o15, o16, o17, o18, o19, o20, o21, o22⟩, hc23, hf⟩ := ob hf
      refine G_callV (μ2 := mu_X7_better) (As := [.int a1]) (w2 := (w_X7_factor c_above c_below o8 o9 o10 o11 c_board_askers c_board_places c_row o12 o13 o14 o15 o16 o17 o18 o19 o20 o21 o22 c_board_likes c_board_seats c_board_told c_board_wishes u_board_age)) (wc := (w_X7_better c_aimed_askers c_aimed_places c_aimed_seatBits c_aimed_entries c_board_askers c_board_places c_aimed_best c_aimed_clipAll c_aimed_clipToOne c_aimed_clipToTwo c_aimed_firstOf c_aimed_gains c_aimed_left c_aimed_next c_aimed_solvedGains c_aimed_ways c_all_slots c_board_seats c_board_told c_board_wishes c_above c_below u_board_age)) (wc2 := (w_X7_better o8 o9 o10 o11 c_board_askers c_board_places o12 o13 o14 o15 o16 o17 o18 o19 o20 o21 o22 c_board_seats c_board_told c_board_wishes c_above c_below u_board_age)) (rest := []) (rv := [.int r7]) [0, 1, 2, 4, 5, 6, 7, 8, 9, 10, 11, 12, 13, 14, 16, 17, 18] [1000, 1001, 1002, 1003, 1004, 1005, 1006, 3, 15] [3, 15] [2, 3, 4, 0, 5, 6, 7, 8, 9, 10, 11, 12, 13, 14, 15, 1, 16, 17, 18] (c_X7_better hc23) cw_X7_better m_X7_185 dX7_factor_29 rfl ⟨leb rfl, leb rfl⟩ ⟨rfl, rfl⟩ rfl ⟨_, rfl, rfl⟩ (Fit.mk rfl rfl rfl) rfl (leb rfl) (ROsub.nil rfl rfl) rfl ?_
      change GG _ _ _ _ _ _ _ _ _ (w_X7_factor c_above c_below o8 o9 o10 o11 c_board_askers c_board_places c_row o12 o13 o14 o15 o16 o17 o18 o19 o20 o21 o22 c_board_likes c_board_seats c_board_told c_board_wishes u_board_age) [some (.ref 0), some (.int a1)] [.int r7]
      refine G_if_le 44 dX7_factor_32 (by decide) (fun h24 => ?_) (fun h24 => ?_)
      · replace hf := ob_t h24 hf
        refine G_aload_n dX7_factor_44 rfl rfl ?_
        refine G_iload_n dX7_factor_45 rfl rfl ?_
        obtain ⟨⟨o25, o26, o27, o28, o29, o30, o31, o32, o33, o34, o35, o36, o37, o38, o39, o40, o41, o42⟩, hc43, hf⟩ := ob hf
        refine G_callV (μ2 := mu_X7_findFactor) (As := [.int a1]) (w2 := (w_X7_factor o25 o26 o27 o28 o29 o30 c_board_askers c_board_places o31 o32 o33 o34 o35 o36 o37 o38 o39 o40 o41 o42 c_board_likes c_board_seats c_board_told c_board_wishes u_board_age)) (wc := (w_X7_findFactor c_above c_below o8 o9 o10 o11 c_board_askers c_board_places c_row o12 o13 o14 o15 o16 o17 o18 o19 o20 o21 o22 c_board_seats c_board_told c_board_wishes u_board_age)) (wc2 := (w_X7_findFactor o25 o26 o27 o28 o29 o30 c_board_askers c_board_places o31 o32 o33 o34 o35 o36 o37 o38 o39 o40 o41 o42 c_board_seats c_board_told c_board_wishes u_board_age)) (rest := []) (rv := []) [0, 1, 2, 3, 4, 5, 6, 7, 8, 9, 10, 11, 12, 13, 14, 16, 17, 18] [1000, 1001, 1002, 1003, 1004, 1005, 1006, 15] [15] [1, 2, 3, 4, 5, 6, 7, 8, 9, 10, 11, 12, 13, 14, 15, 0, 16, 17, 18] (c_X7_findFactor hc43) cw_X7_findFactor m_X7_188 dX7_factor_46 rfl ⟨leb rfl, leb rfl⟩ ⟨rfl, rfl⟩ rfl ⟨_, rfl, rfl⟩ (Fit.mk rfl rfl rfl) rfl (leb rfl) (ROsub.nil rfl rfl) rfl ?_
        change GG _ _ _ _ _ _ _ _ _ (w_X7_factor o25 o26 o27 o28 o29 o30 c_board_askers c_board_places o31 o32 o33 o34 o35 o36 o37 o38 o39 o40 o41 o42 c_board_likes c_board_seats c_board_told c_board_wishes u_board_age) [some (.ref 0), some (.int a1)] []
        refine G_iconst 1 dX7_factor_49 (by decide) ?_
        obtain rfl := os hf
        exact G_ireturn dX7_factor_50 rfl
      · replace hf := ob_f h24 hf
        refine G_aload_n dX7_factor_35 rfl rfl ?_
        refine G_lconst 1 dX7_factor_36 (by decide) ?_
        refine G_lconst 0 dX7_factor_37 (by decide) ?_
        obtain ⟨⟨o44, o45⟩, hc46, hf⟩ := ob hf
        refine G_callV (μ2 := mu_X7_tellFraction) (As := [.long 1, .long 0]) (w2 := (w_X7_factor o44 o45 o8 o9 o10 o11 c_board_askers c_board_places c_row o12 o13 o14 o15 o16 o17 o18 o19 o20 o21 o22 c_board_likes c_board_seats c_board_told c_board_wishes u_board_age)) (wc := (w_X7_tellFraction c_above c_below)) (wc2 := (w_X7_tellFraction o44 o45)) (rest := []) (rv := []) [0] [2, 1000, 1001, 1, 1002, 1003, 1004, 1005, 1006, 3] [1, 2, 3, 4, 5, 6, 7, 8, 9, 10, 11, 12, 13, 14, 15, 16, 17, 18] [18, 0, 1, 2, 3, 4, 5, 6, 7, 8, 9, 10, 11, 12, 13, 14, 15, 16, 17] (c_X7_tellFraction hc46) cw_X7_tellFraction m_X7_181 dX7_factor_38 rfl ⟨leb rfl, leb rfl⟩ ⟨rfl, rfl⟩ rfl ⟨_, rfl, rfl⟩ (Fit.mk rfl rfl rfl) rfl (leb rfl) (ROsub.nil rfl rfl) rfl ?_
        change GG _ _ _ _ _ _ _ _ _ (w_X7_factor o44 o45 o8 o9 o10 o11 c_board_askers c_board_places c_row o12 o13 o14 o15 o16 o17 o18 o19 o20 o21 o22 c_board_likes c_board_seats c_board_told c_board_wishes u_board_age) [some (.ref 0), some (.int a1)] []
        refine G_goto 49 dX7_factor_41 (by decide) ?_
        refine G_iconst 1 dX7_factor_49 (by decide) ?_
        obtain rfl := os hf
        exact G_ireturn dX7_factor_50 rfl
    · replace hf := ob_t h6 hf
      refine G_aload_n dX7_factor_18 rfl rfl ?_
      refine G_lconst 0 dX7_factor_19 (by decide) ?_
      refine G_lconst 1 dX7_factor_20 (by decide) ?_
      obtain ⟨⟨o47, o48⟩, hc49, hf⟩ := ob hf
      refine G_callV (μ2 := mu_X7_tellFraction) (As := [.long 0, .long 1]) (w2 := (w_X7_factor o47 o48 c_aimed_askers c_aimed_places c_aimed_seatBits c_aimed_entries c_board_askers c_board_places c_row c_aimed_best c_aimed_clipAll c_aimed_clipToOne c_aimed_clipToTwo c_aimed_firstOf c_aimed_gains c_aimed_left c_aimed_next c_aimed_solvedGains c_aimed_ways c_all_slots c_board_likes c_board_seats c_board_told c_board_wishes u_board_age)) (wc := (w_X7_tellFraction c_above c_below)) (wc2 := (w_X7_tellFraction o47 o48)) (rest := []) (rv := []) [0] [2, 1000, 1001, 1, 1002, 1003, 1004, 1005, 1006, 3] [1, 2, 3, 4, 5, 6, 7, 8, 9, 10, 11, 12, 13, 14, 15, 16, 17, 18] [18, 0, 1, 2, 3, 4, 5, 6, 7, 8, 9, 10, 11, 12, 13, 14, 15, 16, 17] (c_X7_tellFraction hc49) cw_X7_tellFraction m_X7_181 dX7_factor_21 rfl ⟨leb rfl, leb rfl⟩ ⟨rfl, rfl⟩ rfl ⟨_, rfl, rfl⟩ (Fit.mk rfl rfl rfl) rfl (leb rfl) (ROsub.nil rfl rfl) rfl ?_
      change GG _ _ _ _ _ _ _ _ _ (w_X7_factor o47 o48 c_aimed_askers c_aimed_places c_aimed_seatBits c_aimed_entries c_board_askers c_board_places c_row c_aimed_best c_aimed_clipAll c_aimed_clipToOne c_aimed_clipToTwo c_aimed_firstOf c_aimed_gains c_aimed_left c_aimed_next c_aimed_solvedGains c_aimed_ways c_all_slots c_board_likes c_board_seats c_board_told c_board_wishes u_board_age) [some (.ref 0), some (.int a1)] []
      refine G_goto 49 dX7_factor_24 (by decide) ?_
      refine G_iconst 1 dX7_factor_49 (by decide) ?_
      obtain rfl := os hf
      exact G_ireturn dX7_factor_50 rfl
  · replace hf := ob_t h3 hf
    refine G_bipush (-2 : Int32) dX7_factor_7 (by decide) ?_
    obtain rfl := os hf
    exact G_ireturn dX7_factor_9 rfl
set_option maxRecDepth 20000 in
theorem dX7_part_0 : decode cX7_part 0 = .ok (.iload_n 1, 1) := by decide +kernel
set_option maxRecDepth 20000 in
theorem dX7_part_1 : decode cX7_part 1 = .ok (.ifCond .eq 12, 3) := by decide +kernel
set_option maxRecDepth 20000 in
theorem dX7_part_4 : decode cX7_part 4 = .ok (.iload_n 1, 1) := by decide +kernel
set_option maxRecDepth 20000 in
theorem dX7_part_5 : decode cX7_part 5 = .ok (.iconst 1, 1) := by decide +kernel
set_option maxRecDepth 20000 in
theorem dX7_part_6 : decode cX7_part 6 = .ok (.if_icmp .eq 7, 3) := by decide +kernel
set_option maxRecDepth 20000 in
theorem dX7_part_9 : decode cX7_part 9 = .ok (.ldc2_w 191, 3) := by decide +kernel
set_option maxRecDepth 20000 in
theorem dX7_part_12 : decode cX7_part 12 = .ok (.lreturn, 1) := by decide +kernel
set_option maxRecDepth 20000 in
theorem dX7_part_13 : decode cX7_part 13 = .ok (.iload_n 1, 1) := by decide +kernel
set_option maxRecDepth 20000 in
theorem dX7_part_14 : decode cX7_part 14 = .ok (.ifCond .ne 10, 3) := by decide +kernel
set_option maxRecDepth 20000 in
theorem dX7_part_17 : decode cX7_part 17 = .ok (.aload_n 0, 1) := by decide +kernel
set_option maxRecDepth 20000 in
theorem dX7_part_18 : decode cX7_part 18 = .ok (.getfield 72, 3) := by decide +kernel
set_option maxRecDepth 20000 in
theorem dX7_part_21 : decode cX7_part 21 = .ok (.goto 7, 3) := by decide +kernel
set_option maxRecDepth 20000 in
theorem dX7_part_24 : decode cX7_part 24 = .ok (.aload_n 0, 1) := by decide +kernel
set_option maxRecDepth 20000 in
theorem dX7_part_25 : decode cX7_part 25 = .ok (.getfield 76, 3) := by decide +kernel
set_option maxRecDepth 20000 in
theorem dX7_part_28 : decode cX7_part 28 = .ok (.lreturn, 1) := by decide +kernel
def f_X7_part_13 (N : Nat) (c_above : Int64) (c_below : Int64) (v1 : Int32) : Option (Int64) :=
    (if v1 = 0 then
      some c_above
    else
      some c_below)
set_option maxHeartbeats 4000000 in
set_option maxRecDepth 100000 in
theorem g_X7_part_13 {κ : KC} {ω : KW} {A : Nat → Prop} {ad : Nat → Nat}  {N : Nat} {c_above : Int64} {c_below : Int64}  {res : Int64} {v1 : Int32} (hf : f_X7_part_13 N c_above c_below v1 = some res) : GG mu_X7_part κ ω A (QR κ ω A ad (some (.long res)) (w_X7_part c_above c_below)) ad 0 0 13 (w_X7_part c_above c_below) [some (.ref 0), some (.int v1)] [] := by
  refine G_iload_n dX7_part_13 rfl rfl ?_
  refine G_if_ne 24 dX7_part_14 (by decide) (fun h1 => ?_) (fun h1 => ?_)
  · replace hf := ob_f h1 hf
    refine G_aload_n dX7_part_24 rfl rfl ?_
    refine G_get (v := .long c_below) F_X7_76 dX7_part_25 rfl rfl ?_
    obtain rfl := os hf
    exact G_lreturn dX7_part_28 rfl
  · replace hf := ob_t h1 hf
    refine G_aload_n dX7_part_17 rfl rfl ?_
    refine G_get (v := .long c_above) F_X7_72 dX7_part_18 rfl rfl ?_
    refine G_goto 28 dX7_part_21 (by decide) ?_
    obtain rfl := os hf
    exact G_lreturn dX7_part_28 rfl
def f_X7_part (N : Nat) (c_above : Int64) (c_below : Int64) (a1 : Int32) : Option (Int64) :=
  (if a1 = 0 then
    f_X7_part_13 N c_above c_below a1
  else
    (if a1 = 1 then
      f_X7_part_13 N c_above c_below a1
    else
      some (-1 : Int64)))
set_option maxHeartbeats 4000000 in
set_option maxRecDepth 100000 in
theorem c_X7_part {N : Nat} {c_above : Int64} {c_below : Int64}   {a1 : Int32} {res : Int64} (hf : f_X7_part N c_above c_below a1 = some res) : Con mu_X7_part [.ref 0, .int a1] (w_X7_part c_above c_below) (some (.long res)) (w_X7_part c_above c_below) := by
  refine Con.mk (show plainName RX7 = true by decide +kernel) (leb rfl) (fun κ ω A ad => ?_)
  change GG mu_X7_part κ ω A (QR κ ω A ad (some (.long res)) (w_X7_part c_above c_below)) ad 0 0 0 (w_X7_part c_above c_below) [some (.ref 0), some (.int a1)] []
  refine G_iload_n dX7_part_0 rfl rfl ?_
  refine G_if_eq 13 dX7_part_1 (by decide) (fun h1 => ?_) (fun h1 => ?_)
  · replace hf := ob_t h1 hf
    exact g_X7_part_13 hf
  · replace hf := ob_f h1 hf
    refine G_iload_n dX7_part_4 rfl rfl ?_
    refine G_iconst 1 dX7_part_5 (by decide) ?_
    refine G_icmp_eq 13 dX7_part_6 (by decide) (fun h2 => ?_) (fun h2 => ?_)
    · replace hf := ob_t h2 hf
      exact g_X7_part_13 hf
    · replace hf := ob_f h2 hf
      refine G_ldc2 (v := (-1 : Int64)) dX7_part_9 k_X7_191 ?_
      obtain rfl := os hf
      exact G_lreturn dX7_part_12 rfl
set_option maxRecDepth 20000 in
theorem dX7_standing_0 : decode cX7_standing 0 = .ok (.aload_n 0, 1) := by decide +kernel
set_option maxRecDepth 20000 in
theorem dX7_standing_1 : decode cX7_standing 1 = .ok (.getfield 36, 3) := by decide +kernel
set_option maxRecDepth 20000 in
theorem dX7_standing_4 : decode cX7_standing 4 = .ok (.invokevirtual 194, 3) := by decide +kernel
set_option maxRecDepth 20000 in
theorem dX7_standing_7 : decode cX7_standing 7 = .ok (.aload_n 0, 1) := by decide +kernel
set_option maxRecDepth 20000 in
theorem dX7_standing_8 : decode cX7_standing 8 = .ok (.getfield 36, 3) := by decide +kernel
set_option maxRecDepth 20000 in
theorem dX7_standing_11 : decode cX7_standing 11 = .ok (.aload_n 0, 1) := by decide +kernel
set_option maxRecDepth 20000 in
theorem dX7_standing_12 : decode cX7_standing 12 = .ok (.getfield 25, 3) := by decide +kernel
set_option maxRecDepth 20000 in
theorem dX7_standing_15 : decode cX7_standing 15 = .ok (.iconst 1, 1) := by decide +kernel
set_option maxRecDepth 20000 in
theorem dX7_standing_16 : decode cX7_standing 16 = .ok (.iconst 0, 1) := by decide +kernel
set_option maxRecDepth 20000 in
theorem dX7_standing_17 : decode cX7_standing 17 = .ok (.invokevirtual 197, 3) := by decide +kernel
set_option maxRecDepth 20000 in
theorem dX7_standing_20 : decode cX7_standing 20 = .ok (.aload_n 0, 1) := by decide +kernel
set_option maxRecDepth 20000 in
theorem dX7_standing_21 : decode cX7_standing 21 = .ok (.getfield 25, 3) := by decide +kernel
set_option maxRecDepth 20000 in
theorem dX7_standing_24 : decode cX7_standing 24 = .ok (.invokevirtual 201, 3) := by decide +kernel
set_option maxRecDepth 20000 in
theorem dX7_standing_27 : decode cX7_standing 27 = .ok (.aload_n 0, 1) := by decide +kernel
set_option maxRecDepth 20000 in
theorem dX7_standing_28 : decode cX7_standing 28 = .ok (.getfield 25, 3) := by decide +kernel
set_option maxRecDepth 20000 in
theorem dX7_standing_31 : decode cX7_standing 31 = .ok (.invokevirtual 175, 3) := by decide +kernel
set_option maxRecDepth 20000 in
theorem dX7_standing_34 : decode cX7_standing 34 = .ok (.aload_n 0, 1) := by decide +kernel
set_option maxRecDepth 20000 in
theorem dX7_standing_35 : decode cX7_standing 35 = .ok (.getfield 36, 3) := by decide +kernel
set_option maxRecDepth 20000 in
theorem dX7_standing_38 : decode cX7_standing 38 = .ok (.getfield 204, 3) := by decide +kernel
set_option maxRecDepth 20000 in
theorem dX7_standing_41 : decode cX7_standing 41 = .ok (.if_icmp .ne 14, 3) := by decide +kernel
set_option maxRecDepth 20000 in
theorem dX7_standing_44 : decode cX7_standing 44 = .ok (.aload_n 0, 1) := by decide +kernel
set_option maxRecDepth 20000 in
theorem dX7_standing_45 : decode cX7_standing 45 = .ok (.getfield 25, 3) := by decide +kernel
set_option maxRecDepth 20000 in
theorem dX7_standing_48 : decode cX7_standing 48 = .ok (.invokevirtual 124, 3) := by decide +kernel
set_option maxRecDepth 20000 in
theorem dX7_standing_51 : decode cX7_standing 51 = .ok (.i2l, 1) := by decide +kernel
set_option maxRecDepth 20000 in
theorem dX7_standing_52 : decode cX7_standing 52 = .ok (.goto 4, 3) := by decide +kernel
set_option maxRecDepth 20000 in
theorem dX7_standing_55 : decode cX7_standing 55 = .ok (.lconst 0, 1) := by decide +kernel
set_option maxRecDepth 20000 in
theorem dX7_standing_56 : decode cX7_standing 56 = .ok (.lreturn, 1) := by decide +kernel
def f_X7_standing (N : Nat) (c_board_askers : Int32) (c_board_places : Int32) (c_board_likes : Nat → Int32) (c_board_seats : Nat → Int32) (c_board_wishes : Nat → Int32) (c_steadiness_most : Int32) (c_steadiness_tight : Int32) (c_steady_askers : Int32) (c_steady_places : Int32) (c_steady_seatBits : Int32) (c_steady_entries : Int32) (c_all_slots : Nat → Int32) (c_steadiness_firsts : Nat → Int32) (c_steady_best : Nat → Int32) (c_steady_clipAll : Nat → Int32) (c_steady_clipToOne : Nat → Int32) (c_steady_clipToTwo : Nat → Int32) (c_steady_firstOf : Nat → Int32) (c_steady_gains : Nat → Int32) (c_steady_left : Nat → Int32) (c_steady_next : Nat → Int32) (c_steady_solvedGains : Nat → Int32) (c_steady_ways : Nat → Int32)  : Option (Int64 × Int32 × Int32 × Int32 × Int32 × Int32 × Int32 × (Nat → Int32) × (Nat → Int32) × (Nat → Int32) × (Nat → Int32) × (Nat → Int32) × (Nat → Int32) × (Nat → Int32) × (Nat → Int32) × (Nat → Int32) × (Nat → Int32) × (Nat → Int32) × (Nat → Int32)) :=
  (f_X5_learn N c_board_askers c_board_places c_board_likes c_board_seats c_board_wishes c_steadiness_most c_steadiness_tight c_steadiness_firsts).bind fun (o1, o2, o3) =>
  (f_X5_fillGains N o2 c_board_askers c_board_places o3 c_board_wishes c_steady_gains 1 0).bind fun o5 =>
  (f_X4_solve N c_board_askers c_board_places o5 c_board_seats c_steady_askers c_steady_places c_steady_seatBits c_steady_entries c_steady_best c_steady_clipAll c_steady_clipToOne c_steady_clipToTwo c_steady_firstOf c_steady_left c_steady_next c_all_slots c_steady_solvedGains c_steady_ways).bind fun (o7, o8, o9, o10, o11, o12, o13, o14, o15, o16, o17, o18, o19, o20) =>
  (f_X4_bestGain N o11).bind fun r22 =>
  (if r22 = o1 then
    (f_X4_howMany N o20).bind fun r25 =>
    some (r25.toInt64, o1, o2, o7, o8, o9, o10, o18, o3, o11, o12, o13, o14, o15, o5, o16, o17, o19, o20)
  else
    some (0, o1, o2, o7, o8, o9, o10, o18, o3, o11, o12, o13, o14, o15, o5, o16, o17, o19, o20))
set_option maxHeartbeats 4000000 in
set_option maxRecDepth 100000 in
theorem c_X7_standing {N : Nat} {c_board_askers : Int32} {c_board_places : Int32} {c_board_likes : Nat → Int32} {c_board_seats : Nat → Int32} {c_board_wishes : Nat → Int32} {c_steadiness_most : Int32} {c_steadiness_tight : Int32} {c_steady_askers : Int32} {c_steady_places : Int32} {c_steady_seatBits : Int32} {c_steady_entries : Int32} {c_all_slots : Nat → Int32} {c_steadiness_firsts : Nat → Int32} {c_steady_best : Nat → Int32} {c_steady_clipAll : Nat → Int32} {c_steady_clipToOne : Nat → Int32} {c_steady_clipToTwo : Nat → Int32} {c_steady_firstOf : Nat → Int32} {c_steady_gains : Nat → Int32} {c_steady_left : Nat → Int32} {c_steady_next : Nat → Int32} {c_steady_solvedGains : Nat → Int32} {c_steady_ways : Nat → Int32} {u_above : Int64} {u_below : Int64} {u_board_age : Int32}  {res : Int64 × Int32 × Int32 × Int32 × Int32 × Int32 × Int32 × (Nat → Int32) × (Nat → Int32) × (Nat → Int32) × (Nat → Int32) × (Nat → Int32) × (Nat → Int32) × (Nat → Int32) × (Nat → Int32) × (Nat → Int32) × (Nat → Int32) × (Nat → Int32) × (Nat → Int32)} (hf : f_X7_standing N c_board_askers c_board_places c_board_likes c_board_seats c_board_wishes c_steadiness_most c_steadiness_tight c_steady_askers c_steady_places c_steady_seatBits c_steady_entries c_all_slots c_steadiness_firsts c_steady_best c_steady_clipAll c_steady_clipToOne c_steady_clipToTwo c_steady_firstOf c_steady_gains c_steady_left c_steady_next c_steady_solvedGains c_steady_ways = some res) : Con mu_X7_standing [.ref 0] (w_X7_standing c_board_askers c_board_places c_steadiness_most c_steadiness_tight c_steady_askers c_steady_places c_steady_seatBits c_steady_entries c_all_slots c_board_likes c_board_seats c_board_wishes c_steadiness_firsts c_steady_best c_steady_clipAll c_steady_clipToOne c_steady_clipToTwo c_steady_firstOf c_steady_gains c_steady_left c_steady_next c_steady_solvedGains c_steady_ways u_above u_below u_board_age) (some (.long res.1)) (w_X7_standing c_board_askers c_board_places res.2.1 res.2.2.1 res.2.2.2.1 res.2.2.2.2.1 res.2.2.2.2.2.1 res.2.2.2.2.2.2.1 res.2.2.2.2.2.2.2.1 c_board_likes c_board_seats c_board_wishes res.2.2.2.2.2.2.2.2.1 res.2.2.2.2.2.2.2.2.2.1 res.2.2.2.2.2.2.2.2.2.2.1 res.2.2.2.2.2.2.2.2.2.2.2.1 res.2.2.2.2.2.2.2.2.2.2.2.2.1 res.2.2.2.2.2.2.2.2.2.2.2.2.2.1 res.2.2.2.2.2.2.2.2.2.2.2.2.2.2.1 res.2.2.2.2.2.2.2.2.2.2.2.2.2.2.2.1 res.2.2.2.2.2.2.2.2.2.2.2.2.2.2.2.2.1 res.2.2.2.2.2.2.2.2.2.2.2.2.2.2.2.2.2.1 res.2.2.2.2.2.2.2.2.2.2.2.2.2.2.2.2.2.2 u_above u_below u_board_age) := by
  refine Con.mk (show plainName RX7 = true by decide +kernel) (leb rfl) (fun κ ω A ad => ?_)
  change GG mu_X7_standing κ ω A (QR κ ω A ad (some (.long res.1)) (w_X7_standing c_board_askers c_board_places res.2.1 res.2.2.1 res.2.2.2.1 res.2.2.2.2.1 res.2.2.2.2.2.1 res.2.2.2.2.2.2.1 res.2.2.2.2.2.2.2.1 c_board_likes c_board_seats c_board_wishes res.2.2.2.2.2.2.2.2.1 res.2.2.2.2.2.2.2.2.2.1 res.2.2.2.2.2.2.2.2.2.2.1 res.2.2.2.2.2.2.2.2.2.2.2.1 res.2.2.2.2.2.2.2.2.2.2.2.2.1 res.2.2.2.2.2.2.2.2.2.2.2.2.2.1 res.2.2.2.2.2.2.2.2.2.2.2.2.2.2.1 res.2.2.2.2.2.2.2.2.2.2.2.2.2.2.2.1 res.2.2.2.2.2.2.2.2.2.2.2.2.2.2.2.2.1 res.2.2.2.2.2.2.2.2.2.2.2.2.2.2.2.2.2.1 res.2.2.2.2.2.2.2.2.2.2.2.2.2.2.2.2.2.2 u_above u_below u_board_age)) ad 0 0 0 (w_X7_standing c_board_askers c_board_places c_steadiness_most c_steadiness_tight c_steady_askers c_steady_places c_steady_seatBits c_steady_entries c_all_slots c_board_likes c_board_seats c_board_wishes c_steadiness_firsts c_steady_best c_steady_clipAll c_steady_clipToOne c_steady_clipToTwo c_steady_firstOf c_steady_gains c_steady_left c_steady_next c_steady_solvedGains c_steady_ways u_above u_below u_board_age) [some (.ref 0)] []
  refine G_aload_n dX7_standing_0 rfl rfl ?_
  refine G_get (v := .ref 2) F_X7_36 dX7_standing_1 rfl rfl ?_
  obtain ⟨⟨o1, o2, o3⟩, hc4, hf⟩ := ob hf
  refine G_callV (μ2 := mu_X5_learn) (As := []) (w2 := (w_X7_standing c_board_askers c_board_places o1 o2 c_steady_askers c_steady_places c_steady_seatBits c_steady_entries c_all_slots c_board_likes c_board_seats c_board_wishes o3 c_steady_best c_steady_clipAll c_steady_clipToOne c_steady_clipToTwo c_steady_firstOf c_steady_gains c_steady_left c_steady_next c_steady_solvedGains c_steady_ways u_above u_below u_board_age)) (wc := (w_X5_learn c_steadiness_most c_steadiness_tight c_board_askers c_board_places c_steadiness_firsts c_board_likes c_board_seats c_board_wishes u_board_age)) (wc2 := (w_X5_learn o1 o2 c_board_askers c_board_places o3 c_board_likes c_board_seats c_board_wishes u_board_age)) (rest := []) (rv := []) [2, 1, 8, 5, 6, 7] [1007] [0, 3, 4, 9, 10, 11, 12, 13, 14, 15, 16, 17, 18] [0, 14, 13, 1, 2, 16, 17, 18, 15, 3, 4, 5, 6, 7, 8, 9, 10, 11, 12] (c_X5_learn hc4) cw_X5_learn m_X7_194 dX7_standing_4 rfl ⟨leb rfl, leb rfl⟩ ⟨rfl, rfl⟩ rfl ⟨_, rfl, rfl⟩ (Fit.mk rfl rfl rfl) rfl (leb rfl) (ROsub.nil rfl rfl) rfl ?_
  change GG _ _ _ _ _ _ _ _ _ (w_X7_standing c_board_askers c_board_places o1 o2 c_steady_askers c_steady_places c_steady_seatBits c_steady_entries c_all_slots c_board_likes c_board_seats c_board_wishes o3 c_steady_best c_steady_clipAll c_steady_clipToOne c_steady_clipToTwo c_steady_firstOf c_steady_gains c_steady_left c_steady_next c_steady_solvedGains c_steady_ways u_above u_below u_board_age) [some (.ref 0)] []
  refine G_aload_n dX7_standing_7 rfl rfl ?_
  refine G_get (v := .ref 2) F_X7_36 dX7_standing_8 rfl rfl ?_
  refine G_aload_n dX7_standing_11 rfl rfl ?_
  refine G_get (v := .ref 3) F_X7_25 dX7_standing_12 rfl rfl ?_
  refine G_iconst 1 dX7_standing_15 (by decide) ?_
  refine G_iconst 0 dX7_standing_16 (by decide) ?_
  obtain ⟨o5, hc6, hf⟩ := ob hf
  refine G_callV (μ2 := mu_X5_fillGains) (As := [.ref 1, .int 1, .int 0]) (w2 := (w_X7_standing c_board_askers c_board_places o1 o2 c_steady_askers c_steady_places c_steady_seatBits c_steady_entries c_all_slots c_board_likes c_board_seats c_board_wishes o3 c_steady_best c_steady_clipAll c_steady_clipToOne c_steady_clipToTwo c_steady_firstOf o5 c_steady_left c_steady_next c_steady_solvedGains c_steady_ways u_above u_below u_board_age)) (wc := (w_X5_fillGains o2 c_steady_gains c_board_askers c_board_places o3 c_board_wishes o1 c_steady_askers c_steady_places c_steady_seatBits c_steady_entries u_board_age)) (wc2 := (w_X5_fillGains o2 o5 c_board_askers c_board_places o3 c_board_wishes o1 c_steady_askers c_steady_places c_steady_seatBits c_steady_entries u_board_age)) (rest := []) (rv := []) [2, 3, 14, 1, 8, 7] [1, 17, 15, 9, 18, 16, 13, 4, 10, 11, 12, 6, 5, 1007] [0, 4, 5, 6, 9, 10, 11, 12, 13, 15, 16, 17, 18] [0, 16, 13, 14, 1, 2, 3, 18, 17, 4, 5, 6, 7, 8, 15, 9, 10, 11, 12] (c_X5_fillGains hc6) cw_X5_fillGains m_X7_197 dX7_standing_17 rfl ⟨leb rfl, leb rfl⟩ ⟨rfl, rfl⟩ rfl ⟨_, rfl, rfl⟩ (Fit.mk rfl rfl rfl) rfl (leb rfl) (ROsub.nil rfl rfl) rfl ?_
  change GG _ _ _ _ _ _ _ _ _ (w_X7_standing c_board_askers c_board_places o1 o2 c_steady_askers c_steady_places c_steady_seatBits c_steady_entries c_all_slots c_board_likes c_board_seats c_board_wishes o3 c_steady_best c_steady_clipAll c_steady_clipToOne c_steady_clipToTwo c_steady_firstOf o5 c_steady_left c_steady_next c_steady_solvedGains c_steady_ways u_above u_below u_board_age) [some (.ref 0)] []
  refine G_aload_n dX7_standing_20 rfl rfl ?_
  refine G_get (v := .ref 3) F_X7_25 dX7_standing_21 rfl rfl ?_
  obtain ⟨⟨o7, o8, o9, o10, o11, o12, o13, o14, o15, o16, o17, o18, o19, o20⟩, hc21, hf⟩ := ob hf
  refine G_callV (μ2 := mu_X4_solve) (As := []) (w2 := (w_X7_standing c_board_askers c_board_places o1 o2 o7 o8 o9 o10 o18 c_board_likes c_board_seats c_board_wishes o3 o11 o12 o13 o14 o15 o5 o16 o17 o19 o20 u_above u_below u_board_age)) (wc := (w_X4_solve c_steady_askers c_steady_places c_steady_seatBits c_steady_entries c_steady_best c_board_askers c_board_places c_steady_clipAll c_steady_clipToOne c_steady_clipToTwo c_steady_firstOf o5 c_steady_left c_steady_next c_all_slots c_steady_solvedGains c_steady_ways c_board_seats u_board_age)) (wc2 := (w_X4_solve o7 o8 o9 o10 o11 c_board_askers c_board_places o12 o13 o14 o15 o5 o16 o17 o18 o19 o20 c_board_seats u_board_age)) (rest := []) (rv := []) [3, 9, 1, 10, 11, 12, 13, 14, 15, 16, 4, 17, 18, 6] [7, 5, 1007] [0, 2, 5, 7, 8] [0, 7, 1, 5, 15, 2, 18, 3, 4, 6, 8, 9, 10, 11, 12, 13, 14, 16, 17] (c_X4_solve hc21) cw_X4_solve m_X7_201 dX7_standing_24 rfl ⟨leb rfl, leb rfl⟩ ⟨rfl, rfl⟩ rfl ⟨_, rfl, rfl⟩ (Fit.mk rfl rfl rfl) rfl (leb rfl) (ROsub.nil rfl rfl) rfl ?_
  change GG _ _ _ _ _ _ _ _ _ (w_X7_standing c_board_askers c_board_places o1 o2 o7 o8 o9 o10 o18 c_board_likes c_board_seats c_board_wishes o3 o11 o12 o13 o14 o15 o5 o16 o17 o19 o20 u_above u_below u_board_age) [some (.ref 0)] []
  refine G_aload_n dX7_standing_27 rfl rfl ?_
  refine G_get (v := .ref 3) F_X7_25 dX7_standing_28 rfl rfl ?_
  obtain ⟨r22, hc23, hf⟩ := ob hf
  refine G_callV (μ2 := mu_X4_bestGain) (As := []) (w2 := (w_X7_standing c_board_askers c_board_places o1 o2 o7 o8 o9 o10 o18 c_board_likes c_board_seats c_board_wishes o3 o11 o12 o13 o14 o15 o5 o16 o17 o19 o20 u_above u_below u_board_age)) (wc := (w_X4_bestGain o11 o7 o8 o9 o10)) (wc2 := (w_X4_bestGain o11 o7 o8 o9 o10)) (rest := []) (rv := [.int r22]) [3, 9] [1, 14, 17, 15, 18, 16, 13, 4, 10, 11, 12] [0, 1, 2, 4, 5, 6, 7, 8, 10, 11, 12, 13, 14, 15, 16, 17, 18] [0, 1, 2, 17, 3, 4, 5, 6, 7, 18, 8, 9, 10, 11, 12, 13, 14, 15, 16] (c_X4_bestGain hc23) cw_X4_bestGain m_X7_175 dX7_standing_31 rfl ⟨leb rfl, leb rfl⟩ ⟨rfl, rfl⟩ rfl ⟨_, rfl, rfl⟩ (Fit.mk rfl rfl rfl) rfl (leb rfl) (ROsub.nil rfl rfl) rfl ?_
  change GG _ _ _ _ _ _ _ _ _ (w_X7_standing c_board_askers c_board_places o1 o2 o7 o8 o9 o10 o18 c_board_likes c_board_seats c_board_wishes o3 o11 o12 o13 o14 o15 o5 o16 o17 o19 o20 u_above u_below u_board_age) [some (.ref 0)] [.int r22]
  refine G_aload_n dX7_standing_34 rfl rfl ?_
  refine G_get (v := .ref 2) F_X7_36 dX7_standing_35 rfl rfl ?_
  refine G_get (v := .int o1) F_X7_204 dX7_standing_38 rfl rfl ?_
  refine G_icmp_ne 55 dX7_standing_41 (by decide) (fun h24 => ?_) (fun h24 => ?_)
  · replace hf := ob_f h24 hf
    refine G_lconst 0 dX7_standing_55 (by decide) ?_
    obtain rfl := os hf
    exact G_lreturn dX7_standing_56 rfl
  · replace hf := ob_t h24 hf
    refine G_aload_n dX7_standing_44 rfl rfl ?_
    refine G_get (v := .ref 3) F_X7_25 dX7_standing_45 rfl rfl ?_
    obtain ⟨r25, hc26, hf⟩ := ob hf
    refine G_callV (μ2 := mu_X4_howMany) (As := []) (w2 := (w_X7_standing c_board_askers c_board_places o1 o2 o7 o8 o9 o10 o18 c_board_likes c_board_seats c_board_wishes o3 o11 o12 o13 o14 o15 o5 o16 o17 o19 o20 u_above u_below u_board_age)) (wc := (w_X4_howMany o20 o7 o8 o9 o10)) (wc2 := (w_X4_howMany o20 o7 o8 o9 o10)) (rest := []) (rv := [.int r25]) [3, 18] [1, 14, 17, 15, 9, 16, 13, 4, 10, 11, 12] [0, 1, 2, 4, 5, 6, 7, 8, 9, 10, 11, 12, 13, 14, 15, 16, 17] [0, 1, 2, 17, 3, 4, 5, 6, 7, 8, 9, 10, 11, 12, 13, 14, 15, 16, 18] (c_X4_howMany hc26) cw_X4_howMany m_X7_124 dX7_standing_48 rfl ⟨leb rfl, leb rfl⟩ ⟨rfl, rfl⟩ rfl ⟨_, rfl, rfl⟩ (Fit.mk rfl rfl rfl) rfl (leb rfl) (ROsub.nil rfl rfl) rfl ?_
    change GG _ _ _ _ _ _ _ _ _ (w_X7_standing c_board_askers c_board_places o1 o2 o7 o8 o9 o10 o18 c_board_likes c_board_seats c_board_wishes o3 o11 o12 o13 o14 o15 o5 o16 o17 o19 o20 u_above u_below u_board_age) [some (.ref 0)] [.int r25]
    refine G_i2l dX7_standing_51 ?_
    refine G_goto 56 dX7_standing_52 (by decide) ?_
    obtain rfl := os hf
    exact G_lreturn dX7_standing_56 rfl
set_option maxRecDepth 20000 in
theorem dX7_standingAt_0 : decode cX7_standingAt 0 = .ok (.aload_n 0, 1) := by decide +kernel
set_option maxRecDepth 20000 in
theorem dX7_standingAt_1 : decode cX7_standingAt 1 = .ok (.getfield 10, 3) := by decide +kernel
set_option maxRecDepth 20000 in
theorem dX7_standingAt_4 : decode cX7_standingAt 4 = .ok (.iload_n 3, 1) := by decide +kernel
set_option maxRecDepth 20000 in
theorem dX7_standingAt_5 : decode cX7_standingAt 5 = .ok (.invokevirtual 109, 3) := by decide +kernel
set_option maxRecDepth 20000 in
theorem dX7_standingAt_8 : decode cX7_standingAt 8 = .ok (.ifCond .eq 18, 3) := by decide +kernel
set_option maxRecDepth 20000 in
theorem dX7_standingAt_11 : decode cX7_standingAt 11 = .ok (.lload_n 1, 1) := by decide +kernel
set_option maxRecDepth 20000 in
theorem dX7_standingAt_12 : decode cX7_standingAt 12 = .ok (.lconst 0, 1) := by decide +kernel
set_option maxRecDepth 20000 in
theorem dX7_standingAt_13 : decode cX7_standingAt 13 = .ok (.lcmp, 1) := by decide +kernel
set_option maxRecDepth 20000 in
theorem dX7_standingAt_14 : decode cX7_standingAt 14 = .ok (.ifCond .lt 12, 3) := by decide +kernel
set_option maxRecDepth 20000 in
theorem dX7_standingAt_17 : decode cX7_standingAt 17 = .ok (.lload_n 1, 1) := by decide +kernel
set_option maxRecDepth 20000 in
theorem dX7_standingAt_18 : decode cX7_standingAt 18 = .ok (.aload_n 0, 1) := by decide +kernel
set_option maxRecDepth 20000 in
theorem dX7_standingAt_19 : decode cX7_standingAt 19 = .ok (.invokevirtual 207, 3) := by decide +kernel
set_option maxRecDepth 20000 in
theorem dX7_standingAt_22 : decode cX7_standingAt 22 = .ok (.lcmp, 1) := by decide +kernel
set_option maxRecDepth 20000 in
theorem dX7_standingAt_23 : decode cX7_standingAt 23 = .ok (.ifCond .lt 6, 3) := by decide +kernel
set_option maxRecDepth 20000 in
theorem dX7_standingAt_26 : decode cX7_standingAt 26 = .ok (.bipush (-2), 2) := by decide +kernel
set_option maxRecDepth 20000 in
theorem dX7_standingAt_28 : decode cX7_standingAt 28 = .ok (.ireturn, 1) := by decide +kernel
set_option maxRecDepth 20000 in
theorem dX7_standingAt_29 : decode cX7_standingAt 29 = .ok (.aload_n 0, 1) := by decide +kernel
set_option maxRecDepth 20000 in
theorem dX7_standingAt_30 : decode cX7_standingAt 30 = .ok (.getfield 25, 3) := by decide +kernel
set_option maxRecDepth 20000 in
theorem dX7_standingAt_33 : decode cX7_standingAt 33 = .ok (.lload_n 1, 1) := by decide +kernel
set_option maxRecDepth 20000 in
theorem dX7_standingAt_34 : decode cX7_standingAt 34 = .ok (.l2i, 1) := by decide +kernel
set_option maxRecDepth 20000 in
theorem dX7_standingAt_35 : decode cX7_standingAt 35 = .ok (.aload_n 0, 1) := by decide +kernel
set_option maxRecDepth 20000 in
theorem dX7_standingAt_36 : decode cX7_standingAt 36 = .ok (.getfield 68, 3) := by decide +kernel
set_option maxRecDepth 20000 in
theorem dX7_standingAt_39 : decode cX7_standingAt 39 = .ok (.invokevirtual 131, 3) := by decide +kernel
set_option maxRecDepth 20000 in
theorem dX7_standingAt_42 : decode cX7_standingAt 42 = .ok (.aload_n 0, 1) := by decide +kernel
set_option maxRecDepth 20000 in
theorem dX7_standingAt_43 : decode cX7_standingAt 43 = .ok (.getfield 68, 3) := by decide +kernel
set_option maxRecDepth 20000 in
theorem dX7_standingAt_46 : decode cX7_standingAt 46 = .ok (.iload_n 3, 1) := by decide +kernel
set_option maxRecDepth 20000 in
theorem dX7_standingAt_47 : decode cX7_standingAt 47 = .ok (.iaload, 1) := by decide +kernel
set_option maxRecDepth 20000 in
theorem dX7_standingAt_48 : decode cX7_standingAt 48 = .ok (.ireturn, 1) := by decide +kernel
def f_X7_standingAt (N : Nat) (c_board_askers : Int32) (c_board_places : Int32) (c_board_likes : Nat → Int32) (c_board_seats : Nat → Int32) (c_board_wishes : Nat → Int32) (c_row : Nat → Int32) (c_steadiness_most : Int32) (c_steadiness_tight : Int32) (c_steady_askers : Int32) (c_steady_places : Int32) (c_steady_seatBits : Int32) (c_steady_entries : Int32) (c_all_slots : Nat → Int32) (c_steadiness_firsts : Nat → Int32) (c_steady_best : Nat → Int32) (c_steady_clipAll : Nat → Int32) (c_steady_clipToOne : Nat → Int32) (c_steady_clipToTwo : Nat → Int32) (c_steady_firstOf : Nat → Int32) (c_steady_gains : Nat → Int32) (c_steady_left : Nat → Int32) (c_steady_next : Nat → Int32) (c_steady_solvedGains : Nat → Int32) (c_steady_ways : Nat → Int32) (a1 : Int64) (a3 : Int32) : Option (Int32 × (Nat → Int32) × Int32 × Int32 × Int32 × Int32 × Int32 × Int32 × (Nat → Int32) × (Nat → Int32) × (Nat → Int32) × (Nat → Int32) × (Nat → Int32) × (Nat → Int32) × (Nat → Int32) × (Nat → Int32) × (Nat → Int32) × (Nat → Int32) × (Nat → Int32) × (Nat → Int32)) :=
  (f_X0_isAsker N c_board_askers a3).bind fun r1 =>
  (if r1 = 0 then
    some ((-2 : Int32), c_row, c_steadiness_most, c_steadiness_tight, c_steady_askers, c_steady_places, c_steady_seatBits, c_steady_entries, c_all_slots, c_steadiness_firsts, c_steady_best, c_steady_clipAll, c_steady_clipToOne, c_steady_clipToTwo, c_steady_firstOf, c_steady_gains, c_steady_left, c_steady_next, c_steady_solvedGains, c_steady_ways)
  else
    (if a1 < 0 then
      some ((-2 : Int32), c_row, c_steadiness_most, c_steadiness_tight, c_steady_askers, c_steady_places, c_steady_seatBits, c_steady_entries, c_all_slots, c_steadiness_firsts, c_steady_best, c_steady_clipAll, c_steady_clipToOne, c_steady_clipToTwo, c_steady_firstOf, c_steady_gains, c_steady_left, c_steady_next, c_steady_solvedGains, c_steady_ways)
    else
      (f_X7_standing N c_board_askers c_board_places c_board_likes c_board_seats c_board_wishes c_steadiness_most c_steadiness_tight c_steady_askers c_steady_places c_steady_seatBits c_steady_entries c_all_slots c_steadiness_firsts c_steady_best c_steady_clipAll c_steady_clipToOne c_steady_clipToTwo c_steady_firstOf c_steady_gains c_steady_left c_steady_next c_steady_solvedGains c_steady_ways).bind fun (r5, o6, o7, o8, o9, o10, o11, o12, o13, o14, o15, o16, o17, o18, o19, o20, o21, o22, o23) =>
      (if a1 < r5 then
        (f_X4_pathTo N o8 o9 o14 o21 o22 o23 c_row a1.toInt32).bind fun o26 =>
        (rdI 8 o26 a3).bind fun t28 =>
        some (t28, o26, o6, o7, o8, o9, o10, o11, o12, o13, o14, o15, o16, o17, o18, o19, o20, o21, o22, o23)
      else
        some ((-2 : Int32), c_row, o6, o7, o8, o9, o10, o11, o12, o13, o14, o15, o16, o17, o18, o19, o20, o21, o22, o23))))
set_option maxHeartbeats 4000000 in
set_option maxRecDepth 100000 in
theorem c_X7_standingAt {N : Nat} {c_board_askers : Int32} {c_board_places : Int32} {c_board_likes : Nat → Int32} {c_board_seats : Nat → Int32} {c_board_wishes : Nat → Int32} {c_row : Nat → Int32} {c_steadiness_most : Int32} {c_steadiness_tight : Int32} {c_steady_askers : Int32} {c_steady_places : Int32} {c_steady_seatBits : Int32} {c_steady_entries : Int32} {c_all_slots : Nat → Int32} {c_steadiness_firsts : Nat → Int32} {c_steady_best : Nat → Int32} {c_steady_clipAll : Nat → Int32} {c_steady_clipToOne : Nat → Int32} {c_steady_clipToTwo : Nat → Int32} {c_steady_firstOf : Nat → Int32} {c_steady_gains : Nat → Int32} {c_steady_left : Nat → Int32} {c_steady_next : Nat → Int32} {c_steady_solvedGains : Nat → Int32} {c_steady_ways : Nat → Int32} {u_above : Int64} {u_below : Int64} {u_board_age : Int32} {a1 : Int64} {a3 : Int32} {res : Int32 × (Nat → Int32) × Int32 × Int32 × Int32 × Int32 × Int32 × Int32 × (Nat → Int32) × (Nat → Int32) × (Nat → Int32) × (Nat → Int32) × (Nat → Int32) × (Nat → Int32) × (Nat → Int32) × (Nat → Int32) × (Nat → Int32) × (Nat → Int32) × (Nat → Int32) × (Nat → Int32)} (hf : f_X7_standingAt N c_board_askers c_board_places c_board_likes c_board_seats c_board_wishes c_row c_steadiness_most c_steadiness_tight c_steady_askers c_steady_places c_steady_seatBits c_steady_entries c_all_slots c_steadiness_firsts c_steady_best c_steady_clipAll c_steady_clipToOne c_steady_clipToTwo c_steady_firstOf c_steady_gains c_steady_left c_steady_next c_steady_solvedGains c_steady_ways a1 a3 = some res) : Con mu_X7_standingAt [.ref 0, .long a1, .int a3] (w_X7_standingAt c_board_askers c_board_places c_row c_steadiness_most c_steadiness_tight c_steady_askers c_steady_places c_steady_seatBits c_steady_entries c_all_slots c_board_likes c_board_seats c_board_wishes c_steadiness_firsts c_steady_best c_steady_clipAll c_steady_clipToOne c_steady_clipToTwo c_steady_firstOf c_steady_gains c_steady_left c_steady_next c_steady_solvedGains c_steady_ways u_above u_below u_board_age) (some (.int res.1)) (w_X7_standingAt c_board_askers c_board_places res.2.1 res.2.2.1 res.2.2.2.1 res.2.2.2.2.1 res.2.2.2.2.2.1 res.2.2.2.2.2.2.1 res.2.2.2.2.2.2.2.1 res.2.2.2.2.2.2.2.2.1 c_board_likes c_board_seats c_board_wishes res.2.2.2.2.2.2.2.2.2.1 res.2.2.2.2.2.2.2.2.2.2.1 res.2.2.2.2.2.2.2.2.2.2.2.1 res.2.2.2.2.2.2.2.2.2.2.2.2.1 res.2.2.2.2.2.2.2.2.2.2.2.2.2.1 res.2.2.2.2.2.2.2.2.2.2.2.2.2.2.1 res.2.2.2.2.2.2.2.2.2.2.2.2.2.2.2.1 res.2.2.2.2.2.2.2.2.2.2.2.2.2.2.2.2.1 res.2.2.2.2.2.2.2.2.2.2.2.2.2.2.2.2.2.1 res.2.2.2.2.2.2.2.2.2.2.2.2.2.2.2.2.2.2.1 res.2.2.2.2.2.2.2.2.2.2.2.2.2.2.2.2.2.2.2 u_above u_below u_board_age) := by
  refine Con.mk (show plainName RX7 = true by decide +kernel) (leb rfl) (fun κ ω A ad => ?_)
  change GG mu_X7_standingAt κ ω A (QR κ ω A ad (some (.int res.1)) (w_X7_standingAt c_board_askers c_board_places res.2.1 res.2.2.1 res.2.2.2.1 res.2.2.2.2.1 res.2.2.2.2.2.1 res.2.2.2.2.2.2.1 res.2.2.2.2.2.2.2.1 res.2.2.2.2.2.2.2.2.1 c_board_likes c_board_seats c_board_wishes res.2.2.2.2.2.2.2.2.2.1 res.2.2.2.2.2.2.2.2.2.2.1 res.2.2.2.2.2.2.2.2.2.2.2.1 res.2.2.2.2.2.2.2.2.2.2.2.2.1 res.2.2.2.2.2.2.2.2.2.2.2.2.2.1 res.2.2.2.2.2.2.2.2.2.2.2.2.2.2.1 res.2.2.2.2.2.2.2.2.2.2.2.2.2.2.2.1 res.2.2.2.2.2.2.2.2.2.2.2.2.2.2.2.2.1 res.2.2.2.2.2.2.2.2.2.2.2.2.2.2.2.2.2.1 res.2.2.2.2.2.2.2.2.2.2.2.2.2.2.2.2.2.2.1 res.2.2.2.2.2.2.2.2.2.2.2.2.2.2.2.2.2.2.2 u_above u_below u_board_age)) ad 0 0 0 (w_X7_standingAt c_board_askers c_board_places c_row c_steadiness_most c_steadiness_tight c_steady_askers c_steady_places c_steady_seatBits c_steady_entries c_all_slots c_board_likes c_board_seats c_board_wishes c_steadiness_firsts c_steady_best c_steady_clipAll c_steady_clipToOne c_steady_clipToTwo c_steady_firstOf c_steady_gains c_steady_left c_steady_next c_steady_solvedGains c_steady_ways u_above u_below u_board_age) [some (.ref 0), some (.long a1), none, some (.int a3)] []
  refine G_aload_n dX7_standingAt_0 rfl rfl ?_
  refine G_get (v := .ref 1) F_X7_10 dX7_standingAt_1 rfl rfl ?_
  refine G_iload_n dX7_standingAt_4 rfl rfl ?_
  obtain ⟨r1, hc2, hf⟩ := ob hf
  refine G_callV (μ2 := mu_X0_isAsker) (As := [.int a3]) (w2 := (w_X7_standingAt c_board_askers c_board_places c_row c_steadiness_most c_steadiness_tight c_steady_askers c_steady_places c_steady_seatBits c_steady_entries c_all_slots c_board_likes c_board_seats c_board_wishes c_steadiness_firsts c_steady_best c_steady_clipAll c_steady_clipToOne c_steady_clipToTwo c_steady_firstOf c_steady_gains c_steady_left c_steady_next c_steady_solvedGains c_steady_ways u_above u_below u_board_age)) (wc := (w_X0_isAsker c_board_askers c_board_places u_board_age)) (wc2 := (w_X0_isAsker c_board_askers c_board_places u_board_age)) (rest := []) (rv := [.int r1]) [1] [7, 8, 6, 1006] [0, 2, 3, 4, 5, 6, 7, 8, 9, 10, 11, 12, 13, 14, 15, 16, 17, 18, 19] [0, 19, 1, 2, 3, 4, 5, 6, 7, 8, 9, 10, 11, 12, 13, 14, 15, 16, 17, 18] (c_X0_isAsker hc2) cw_X0_isAsker m_X7_109 dX7_standingAt_5 rfl ⟨leb rfl, leb rfl⟩ ⟨rfl, rfl⟩ rfl ⟨_, rfl, rfl⟩ (Fit.mk rfl rfl rfl) rfl (leb rfl) (ROsub.nil rfl rfl) rfl ?_
  change GG _ _ _ _ _ _ _ _ _ (w_X7_standingAt c_board_askers c_board_places c_row c_steadiness_most c_steadiness_tight c_steady_askers c_steady_places c_steady_seatBits c_steady_entries c_all_slots c_board_likes c_board_seats c_board_wishes c_steadiness_firsts c_steady_best c_steady_clipAll c_steady_clipToOne c_steady_clipToTwo c_steady_firstOf c_steady_gains c_steady_left c_steady_next c_steady_solvedGains c_steady_ways u_above u_below u_board_age) [some (.ref 0), some (.long a1), none, some (.int a3)] [.int r1]
  refine G_if_eq 26 dX7_standingAt_8 (by decide) (fun h3 => ?_) (fun h3 => ?_)
  · replace hf := ob_t h3 hf
    refine G_bipush (-2 : Int32) dX7_standingAt_26 (by decide) ?_
    obtain rfl := os hf
    exact G_ireturn dX7_standingAt_28 rfl
  · replace hf := ob_f h3 hf
    refine G_lload_n dX7_standingAt_11 rfl rfl ?_
    refine G_lconst 0 dX7_standingAt_12 (by decide) ?_
    refine G_lcmp_lt 26 dX7_standingAt_13 dX7_standingAt_14 (by decide) (fun h4 => ?_) (fun h4 => ?_)
    · replace hf := ob_t h4 hf
      refine G_bipush (-2 : Int32) dX7_standingAt_26 (by decide) ?_
      obtain rfl := os hf
      exact G_ireturn dX7_standingAt_28 rfl
    · replace hf := ob_f h4 hf
      refine G_lload_n dX7_standingAt_17 rfl rfl ?_
      refine G_aload_n dX7_standingAt_18 rfl rfl ?_
      obtain ⟨⟨r5, o6, o7, o8, o9, o10, o11, o12, o13, o14, o15, o16, o17, o18, o19, o20, o21, o22, o23⟩, hc24, hf⟩ := ob hf
      refine G_callV (μ2 := mu_X7_standing) (As := []) (w2 := (w_X7_standingAt c_board_askers c_board_places c_row o6 o7 o8 o9 o10 o11 o12 c_board_likes c_board_seats c_board_wishes o13 o14 o15 o16 o17 o18 o19 o20 o21 o22 o23 u_above u_below u_board_age)) (wc := (w_X7_standing c_board_askers c_board_places c_steadiness_most c_steadiness_tight c_steady_askers c_steady_places c_steady_seatBits c_steady_entries c_all_slots c_board_likes c_board_seats c_board_wishes c_steadiness_firsts c_steady_best c_steady_clipAll c_steady_clipToOne c_steady_clipToTwo c_steady_firstOf c_steady_gains c_steady_left c_steady_next c_steady_solvedGains c_steady_ways u_above u_below u_board_age)) (wc2 := (w_X7_standing c_board_askers c_board_places o6 o7 o8 o9 o10 o11 o12 c_board_likes c_board_seats c_board_wishes o13 o14 o15 o16 o17 o18 o19 o20 o21 o22 o23 u_above u_below u_board_age)) (rest := [.long a1]) (rv := [.long r5]) [0, 1, 3, 4, 5, 6, 7, 8, 9, 10, 11, 12, 13, 14, 15, 16, 17, 18, 19] [1000, 1001, 1002, 1003, 1004, 1005, 2, 1006] [2] [1, 2, 0, 3, 4, 5, 6, 7, 8, 9, 10, 11, 12, 13, 14, 15, 16, 17, 18, 19] (c_X7_standing hc24) cw_X7_standing m_X7_207 dX7_standingAt_19 rfl ⟨leb rfl, leb rfl⟩ ⟨rfl, rfl⟩ rfl ⟨_, rfl, rfl⟩ (Fit.mk rfl rfl rfl) rfl (leb rfl) (ROsub.nil rfl rfl) rfl ?_
      change GG _ _ _ _ _ _ _ _ _ (w_X7_standingAt c_board_askers c_board_places c_row o6 o7 o8 o9 o10 o11 o12 c_board_likes c_board_seats c_board_wishes o13 o14 o15 o16 o17 o18 o19 o20 o21 o22 o23 u_above u_below u_board_age) [some (.ref 0), some (.long a1), none, some (.int a3)] [.long r5, .long a1]
      refine G_lcmp_lt 29 dX7_standingAt_22 dX7_standingAt_23 (by decide) (fun h25 => ?_) (fun h25 => ?_)
      · replace hf := ob_t h25 hf
        refine G_aload_n dX7_standingAt_29 rfl rfl ?_
        refine G_get (v := .ref 4) F_X7_25 dX7_standingAt_30 rfl rfl ?_
        refine G_lload_n dX7_standingAt_33 rfl rfl ?_
        refine G_l2i dX7_standingAt_34 ?_
        refine G_aload_n dX7_standingAt_35 rfl rfl ?_
        refine G_get (v := .ref 2) F_X7_68 dX7_standingAt_36 rfl rfl ?_
        obtain ⟨o26, hc27, hf⟩ := ob hf
        refine G_callV (μ2 := mu_X4_pathTo) (As := [.int a1.toInt32, .ref 1]) (w2 := (w_X7_standingAt c_board_askers c_board_places o26 o6 o7 o8 o9 o10 o11 o12 c_board_likes c_board_seats c_board_wishes o13 o14 o15 o16 o17 o18 o19 o20 o21 o22 o23 u_above u_below u_board_age)) (wc := (w_X4_pathTo o8 o9 c_row o14 o21 o22 o23 o10 o11)) (wc2 := (w_X4_pathTo o8 o9 o26 o14 o21 o22 o23 o10 o11)) (rest := []) (rv := []) [4, 2, 10, 17, 18, 19] [1, 15, 16, 14, 5, 11, 12, 13] [0, 1, 3, 5, 6, 7, 8, 9, 11, 12, 13, 14, 15, 16] [0, 1, 15, 2, 14, 3, 4, 5, 6, 7, 16, 8, 9, 10, 11, 12, 13, 17, 18, 19] (c_X4_pathTo hc27) cw_X4_pathTo m_X7_131 dX7_standingAt_39 rfl ⟨leb rfl, leb rfl⟩ ⟨rfl, rfl⟩ rfl ⟨_, rfl, rfl⟩ (Fit.mk rfl rfl rfl) rfl (leb rfl) (ROsub.nil rfl rfl) rfl ?_
        change GG _ _ _ _ _ _ _ _ _ (w_X7_standingAt c_board_askers c_board_places o26 o6 o7 o8 o9 o10 o11 o12 c_board_likes c_board_seats c_board_wishes o13 o14 o15 o16 o17 o18 o19 o20 o21 o22 o23 u_above u_below u_board_age) [some (.ref 0), some (.long a1), none, some (.int a3)] []
        refine G_aload_n dX7_standingAt_42 rfl rfl ?_
        refine G_get (v := .ref 2) F_X7_68 dX7_standingAt_43 rfl rfl ?_
        refine G_iload_n dX7_standingAt_46 rfl rfl ?_
        obtain ⟨t28, ht28, hf⟩ := ob hf
        refine G_iald dX7_standingAt_47 rfl ht28 ?_
        obtain rfl := os hf
        exact G_ireturn dX7_standingAt_48 rfl
      · replace hf := ob_f h25 hf
        refine G_bipush (-2 : Int32) dX7_standingAt_26 (by decide) ?_
        obtain rfl := os hf
        exact G_ireturn dX7_standingAt_28 rfl
set_option maxRecDepth 20000 in
theorem dX7_standingMany_0 : decode cX7_standingMany 0 = .ok (.iload_n 1, 1) := by decide +kernel
set_option maxRecDepth 20000 in
theorem dX7_standingMany_1 : decode cX7_standingMany 1 = .ok (.ifCond .eq 11, 3) := by decide +kernel
set_option maxRecDepth 20000 in
theorem dX7_standingMany_4 : decode cX7_standingMany 4 = .ok (.iload_n 1, 1) := by decide +kernel
set_option maxRecDepth 20000 in
theorem dX7_standingMany_5 : decode cX7_standingMany 5 = .ok (.iconst 1, 1) := by decide +kernel
set_option maxRecDepth 20000 in
theorem dX7_standingMany_6 : decode cX7_standingMany 6 = .ok (.if_icmp .eq 6, 3) := by decide +kernel
set_option maxRecDepth 20000 in
theorem dX7_standingMany_9 : decode cX7_standingMany 9 = .ok (.bipush (-2), 2) := by decide +kernel
set_option maxRecDepth 20000 in
theorem dX7_standingMany_11 : decode cX7_standingMany 11 = .ok (.ireturn, 1) := by decide +kernel
set_option maxRecDepth 20000 in
theorem dX7_standingMany_12 : decode cX7_standingMany 12 = .ok (.aload_n 0, 1) := by decide +kernel
set_option maxRecDepth 20000 in
theorem dX7_standingMany_13 : decode cX7_standingMany 13 = .ok (.invokevirtual 207, 3) := by decide +kernel
set_option maxRecDepth 20000 in
theorem dX7_standingMany_16 : decode cX7_standingMany 16 = .ok (.lconst 0, 1) := by decide +kernel
set_option maxRecDepth 20000 in
theorem dX7_standingMany_17 : decode cX7_standingMany 17 = .ok (.lcmp, 1) := by decide +kernel
set_option maxRecDepth 20000 in
theorem dX7_standingMany_18 : decode cX7_standingMany 18 = .ok (.ifCond .ne 5, 3) := by decide +kernel
set_option maxRecDepth 20000 in
theorem dX7_standingMany_21 : decode cX7_standingMany 21 = .ok (.iconst (-1), 1) := by decide +kernel
set_option maxRecDepth 20000 in
theorem dX7_standingMany_22 : decode cX7_standingMany 22 = .ok (.ireturn, 1) := by decide +kernel
set_option maxRecDepth 20000 in
theorem dX7_standingMany_23 : decode cX7_standingMany 23 = .ok (.aload_n 0, 1) := by decide +kernel
set_option maxRecDepth 20000 in
theorem dX7_standingMany_24 : decode cX7_standingMany 24 = .ok (.getfield 36, 3) := by decide +kernel
set_option maxRecDepth 20000 in
theorem dX7_standingMany_27 : decode cX7_standingMany 27 = .ok (.aload_n 0, 1) := by decide +kernel
set_option maxRecDepth 20000 in
theorem dX7_standingMany_28 : decode cX7_standingMany 28 = .ok (.getfield 28, 3) := by decide +kernel
set_option maxRecDepth 20000 in
theorem dX7_standingMany_31 : decode cX7_standingMany 31 = .ok (.bipush 100, 2) := by decide +kernel
set_option maxRecDepth 20000 in
theorem dX7_standingMany_33 : decode cX7_standingMany 33 = .ok (.iload_n 1, 1) := by decide +kernel
set_option maxRecDepth 20000 in
theorem dX7_standingMany_34 : decode cX7_standingMany 34 = .ok (.ifCond .ne 7, 3) := by decide +kernel
set_option maxRecDepth 20000 in
theorem dX7_standingMany_37 : decode cX7_standingMany 37 = .ok (.iconst 1, 1) := by decide +kernel
set_option maxRecDepth 20000 in
theorem dX7_standingMany_38 : decode cX7_standingMany 38 = .ok (.goto 4, 3) := by decide +kernel
set_option maxRecDepth 20000 in
theorem dX7_standingMany_41 : decode cX7_standingMany 41 = .ok (.iconst (-1), 1) := by decide +kernel
set_option maxRecDepth 20000 in
theorem dX7_standingMany_42 : decode cX7_standingMany 42 = .ok (.invokevirtual 197, 3) := by decide +kernel
set_option maxRecDepth 20000 in
theorem dX7_standingMany_45 : decode cX7_standingMany 45 = .ok (.aload_n 0, 1) := by decide +kernel
set_option maxRecDepth 20000 in
theorem dX7_standingMany_46 : decode cX7_standingMany 46 = .ok (.getfield 28, 3) := by decide +kernel
set_option maxRecDepth 20000 in
theorem dX7_standingMany_49 : decode cX7_standingMany 49 = .ok (.invokevirtual 201, 3) := by decide +kernel
set_option maxRecDepth 20000 in
theorem dX7_standingMany_52 : decode cX7_standingMany 52 = .ok (.aload_n 0, 1) := by decide +kernel
set_option maxRecDepth 20000 in
theorem dX7_standingMany_53 : decode cX7_standingMany 53 = .ok (.getfield 28, 3) := by decide +kernel
set_option maxRecDepth 20000 in
theorem dX7_standingMany_56 : decode cX7_standingMany 56 = .ok (.invokevirtual 175, 3) := by decide +kernel
set_option maxRecDepth 20000 in
theorem dX7_standingMany_59 : decode cX7_standingMany 59 = .ok (.bipush 100, 2) := by decide +kernel
set_option maxRecDepth 20000 in
theorem dX7_standingMany_61 : decode cX7_standingMany 61 = .ok (.aload_n 0, 1) := by decide +kernel
set_option maxRecDepth 20000 in
theorem dX7_standingMany_62 : decode cX7_standingMany 62 = .ok (.getfield 36, 3) := by decide +kernel
set_option maxRecDepth 20000 in
theorem dX7_standingMany_65 : decode cX7_standingMany 65 = .ok (.getfield 204, 3) := by decide +kernel
set_option maxRecDepth 20000 in
theorem dX7_standingMany_68 : decode cX7_standingMany 68 = .ok (.imul, 1) := by decide +kernel
set_option maxRecDepth 20000 in
theorem dX7_standingMany_69 : decode cX7_standingMany 69 = .ok (.isub, 1) := by decide +kernel
set_option maxRecDepth 20000 in
theorem dX7_standingMany_70 : decode cX7_standingMany 70 = .ok (.istore_n 2, 1) := by decide +kernel
set_option maxRecDepth 20000 in
theorem dX7_standingMany_71 : decode cX7_standingMany 71 = .ok (.iload_n 1, 1) := by decide +kernel
set_option maxRecDepth 20000 in
theorem dX7_standingMany_72 : decode cX7_standingMany 72 = .ok (.ifCond .ne 7, 3) := by decide +kernel
set_option maxRecDepth 20000 in
theorem dX7_standingMany_75 : decode cX7_standingMany 75 = .ok (.iload_n 2, 1) := by decide +kernel
set_option maxRecDepth 20000 in
theorem dX7_standingMany_76 : decode cX7_standingMany 76 = .ok (.goto 5, 3) := by decide +kernel
set_option maxRecDepth 20000 in
theorem dX7_standingMany_79 : decode cX7_standingMany 79 = .ok (.iload_n 2, 1) := by decide +kernel
set_option maxRecDepth 20000 in
theorem dX7_standingMany_80 : decode cX7_standingMany 80 = .ok (.ineg, 1) := by decide +kernel
set_option maxRecDepth 20000 in
theorem dX7_standingMany_81 : decode cX7_standingMany 81 = .ok (.ireturn, 1) := by decide +kernel
def f_X7_standingMany_42 (N : Nat) (c_board_askers : Int32) (c_board_places : Int32) (c_board_likes : Nat → Int32) (c_board_seats : Nat → Int32) (c_board_wishes : Nat → Int32) (c_aimed_askers : Int32) (c_aimed_places : Int32) (c_aimed_seatBits : Int32) (c_aimed_entries : Int32) (c_steadiness_most : Int32) (c_steadiness_tight : Int32) (c_steady_askers : Int32) (c_steady_places : Int32) (c_steady_seatBits : Int32) (c_steady_entries : Int32) (c_aimed_best : Nat → Int32) (c_aimed_clipAll : Nat → Int32) (c_aimed_clipToOne : Nat → Int32) (c_aimed_clipToTwo : Nat → Int32) (c_aimed_firstOf : Nat → Int32) (c_aimed_gains : Nat → Int32) (c_aimed_left : Nat → Int32) (c_aimed_next : Nat → Int32) (c_aimed_solvedGains : Nat → Int32) (c_aimed_ways : Nat → Int32) (c_all_slots : Nat → Int32) (c_steadiness_firsts : Nat → Int32) (c_steady_best : Nat → Int32) (c_steady_clipAll : Nat → Int32) (c_steady_clipToOne : Nat → Int32) (c_steady_clipToTwo : Nat → Int32) (c_steady_firstOf : Nat → Int32) (c_steady_gains : Nat → Int32) (c_steady_left : Nat → Int32) (c_steady_next : Nat → Int32) (c_steady_solvedGains : Nat → Int32) (c_steady_ways : Nat → Int32) (v1 : Int32) (s2 : Int32) (s3 : Int32) : Option (Int32 × Int32 × Int32 × Int32 × Int32 × Int32 × Int32 × Int32 × Int32 × Int32 × Int32 × (Nat → Int32) × (Nat → Int32) × (Nat → Int32) × (Nat → Int32) × (Nat → Int32) × (Nat → Int32) × (Nat → Int32) × (Nat → Int32) × (Nat → Int32) × (Nat → Int32) × (Nat → Int32) × (Nat → Int32) × (Nat → Int32) × (Nat → Int32) × (Nat → Int32) × (Nat → Int32) × (Nat → Int32) × (Nat → Int32) × (Nat → Int32) × (Nat → Int32) × (Nat → Int32) × (Nat → Int32)) :=
    (f_X5_fillGains N c_steadiness_tight c_board_askers c_board_places c_steadiness_firsts c_board_wishes c_aimed_gains s2 s3).bind fun o1 =>
    (f_X4_solve N c_board_askers c_board_places o1 c_board_seats c_aimed_askers c_aimed_places c_aimed_seatBits c_aimed_entries c_aimed_best c_aimed_clipAll c_aimed_clipToOne c_aimed_clipToTwo c_aimed_firstOf c_aimed_left c_aimed_next c_all_slots c_aimed_solvedGains c_aimed_ways).bind fun (o3, o4, o5, o6, o7, o8, o9, o10, o11, o12, o13, o14, o15, o16) =>
    (f_X4_bestGain N o7).bind fun r18 =>
    (if v1 = 0 then
      some (r18 - (100 * c_steadiness_most), o3, o4, o5, o6, c_steadiness_most, c_steadiness_tight, c_steady_askers, c_steady_places, c_steady_seatBits, c_steady_entries, o7, o8, o9, o10, o11, o1, o12, o13, o15, o16, o14, c_steadiness_firsts, c_steady_best, c_steady_clipAll, c_steady_clipToOne, c_steady_clipToTwo, c_steady_firstOf, c_steady_gains, c_steady_left, c_steady_next, c_steady_solvedGains, c_steady_ways)
    else
      some (-(r18 - (100 * c_steadiness_most)), o3, o4, o5, o6, c_steadiness_most, c_steadiness_tight, c_steady_askers, c_steady_places, c_steady_seatBits, c_steady_entries, o7, o8, o9, o10, o11, o1, o12, o13, o15, o16, o14, c_steadiness_firsts, c_steady_best, c_steady_clipAll, c_steady_clipToOne, c_steady_clipToTwo, c_steady_firstOf, c_steady_gains, c_steady_left, c_steady_next, c_steady_solvedGains, c_steady_ways))
set_option maxHeartbeats 4000000 in
set_option maxRecDepth 100000 in
theorem g_X7_standingMany_42 {κ : KC} {ω : KW} {A : Nat → Prop} {ad : Nat → Nat} {u_above : Int64} {u_below : Int64} {u_board_age : Int32} {N : Nat} {c_board_askers : Int32} {c_board_places : Int32} {c_board_likes : Nat → Int32} {c_board_seats : Nat → Int32} {c_board_wishes : Nat → Int32}  {res : Int32 × Int32 × Int32 × Int32 × Int32 × Int32 × Int32 × Int32 × Int32 × Int32 × Int32 × (Nat → Int32) × (Nat → Int32) × (Nat → Int32) × (Nat → Int32) × (Nat → Int32) × (Nat → Int32) × (Nat → Int32) × (Nat → Int32) × (Nat → Int32) × (Nat → Int32) × (Nat → Int32) × (Nat → Int32) × (Nat → Int32) × (Nat → Int32) × (Nat → Int32) × (Nat → Int32) × (Nat → Int32) × (Nat → Int32) × (Nat → Int32) × (Nat → Int32) × (Nat → Int32) × (Nat → Int32)} {c_aimed_askers : Int32} {c_aimed_places : Int32} {c_aimed_seatBits : Int32} {c_aimed_entries : Int32} {c_steadiness_most : Int32} {c_steadiness_tight : Int32} {c_steady_askers : Int32} {c_steady_places : Int32} {c_steady_seatBits : Int32} {c_steady_entries : Int32} {c_aimed_best : Nat → Int32} {c_aimed_clipAll : Nat → Int32} {c_aimed_clipToOne : Nat → Int32} {c_aimed_clipToTwo : Nat → Int32} {c_aimed_firstOf : Nat → Int32} {c_aimed_gains : Nat → Int32} {c_aimed_left : Nat → Int32} {c_aimed_next : Nat → Int32} {c_aimed_solvedGains : Nat → Int32} {c_aimed_ways : Nat → Int32} {c_all_slots : Nat → Int32} {c_steadiness_firsts : Nat → Int32} {c_steady_best : Nat → Int32} {c_steady_clipAll : Nat → Int32} {c_steady_clipToOne : Nat → Int32} {c_steady_clipToTwo : Nat → Int32} {c_steady_firstOf : Nat → Int32} {c_steady_gains : Nat → Int32} {c_steady_left : Nat → Int32} {c_steady_next : Nat → Int32} {c_steady_solvedGains : Nat → Int32} {c_steady_ways : Nat → Int32} {v1 : Int32} {s2 : Int32} {s3 : Int32} (hf : f_X7_standingMany_42 N c_board_askers c_board_places c_board_likes c_board_seats c_board_wishes c_aimed_askers c_aimed_places c_aimed_seatBits c_aimed_entries c_steadiness_most c_steadiness_tight c_steady_askers c_steady_places c_steady_seatBits c_steady_entries c_aimed_best c_aimed_clipAll c_aimed_clipToOne c_aimed_clipToTwo c_aimed_firstOf c_aimed_gains c_aimed_left c_aimed_next c_aimed_solvedGains c_aimed_ways c_all_slots c_steadiness_firsts c_steady_best c_steady_clipAll c_steady_clipToOne c_steady_clipToTwo c_steady_firstOf c_steady_gains c_steady_left c_steady_next c_steady_solvedGains c_steady_ways v1 s2 s3 = some res) : GG mu_X7_standingMany κ ω A (QR κ ω A ad (some (.int res.1)) (w_X7_standingMany res.2.1 res.2.2.1 res.2.2.2.1 res.2.2.2.2.1 c_board_askers c_board_places res.2.2.2.2.2.1 res.2.2.2.2.2.2.1 res.2.2.2.2.2.2.2.1 res.2.2.2.2.2.2.2.2.1 res.2.2.2.2.2.2.2.2.2.1 res.2.2.2.2.2.2.2.2.2.2.1 res.2.2.2.2.2.2.2.2.2.2.2.1 res.2.2.2.2.2.2.2.2.2.2.2.2.1 res.2.2.2.2.2.2.2.2.2.2.2.2.2.1 res.2.2.2.2.2.2.2.2.2.2.2.2.2.2.1 res.2.2.2.2.2.2.2.2.2.2.2.2.2.2.2.1 res.2.2.2.2.2.2.2.2.2.2.2.2.2.2.2.2.1 res.2.2.2.2.2.2.2.2.2.2.2.2.2.2.2.2.2.1 res.2.2.2.2.2.2.2.2.2.2.2.2.2.2.2.2.2.2.1 res.2.2.2.2.2.2.2.2.2.2.2.2.2.2.2.2.2.2.2.1 res.2.2.2.2.2.2.2.2.2.2.2.2.2.2.2.2.2.2.2.2.1 res.2.2.2.2.2.2.2.2.2.2.2.2.2.2.2.2.2.2.2.2.2.1 c_board_likes c_board_seats c_board_wishes res.2.2.2.2.2.2.2.2.2.2.2.2.2.2.2.2.2.2.2.2.2.2.1 res.2.2.2.2.2.2.2.2.2.2.2.2.2.2.2.2.2.2.2.2.2.2.2.1 res.2.2.2.2.2.2.2.2.2.2.2.2.2.2.2.2.2.2.2.2.2.2.2.2.1 res.2.2.2.2.2.2.2.2.2.2.2.2.2.2.2.2.2.2.2.2.2.2.2.2.2.1 res.2.2.2.2.2.2.2.2.2.2.2.2.2.2.2.2.2.2.2.2.2.2.2.2.2.2.1 res.2.2.2.2.2.2.2.2.2.2.2.2.2.2.2.2.2.2.2.2.2.2.2.2.2.2.2.1 res.2.2.2.2.2.2.2.2.2.2.2.2.2.2.2.2.2.2.2.2.2.2.2.2.2.2.2.2.1 res.2.2.2.2.2.2.2.2.2.2.2.2.2.2.2.2.2.2.2.2.2.2.2.2.2.2.2.2.2.1 res.2.2.2.2.2.2.2.2.2.2.2.2.2.2.2.2.2.2.2.2.2.2.2.2.2.2.2.2.2.2.1 res.2.2.2.2.2.2.2.2.2.2.2.2.2.2.2.2.2.2.2.2.2.2.2.2.2.2.2.2.2.2.2.1 res.2.2.2.2.2.2.2.2.2.2.2.2.2.2.2.2.2.2.2.2.2.2.2.2.2.2.2.2.2.2.2.2 u_above u_below u_board_age)) ad 0 0 42 (w_X7_standingMany c_aimed_askers c_aimed_places c_aimed_seatBits c_aimed_entries c_board_askers c_board_places c_steadiness_most c_steadiness_tight c_steady_askers c_steady_places c_steady_seatBits c_steady_entries c_aimed_best c_aimed_clipAll c_aimed_clipToOne c_aimed_clipToTwo c_aimed_firstOf c_aimed_gains c_aimed_left c_aimed_next c_aimed_solvedGains c_aimed_ways c_all_slots c_board_likes c_board_seats c_board_wishes c_steadiness_firsts c_steady_best c_steady_clipAll c_steady_clipToOne c_steady_clipToTwo c_steady_firstOf c_steady_gains c_steady_left c_steady_next c_steady_solvedGains c_steady_ways u_above u_below u_board_age) [some (.ref 0), some (.int v1), none] [.int s3, .int s2, .ref 1, .ref 3] := by
  obtain ⟨o1, hc2, hf⟩ := ob hf
  refine G_callV (μ2 := mu_X5_fillGains) (As := [.ref 1, .int s2, .int s3]) (w2 := (w_X7_standingMany c_aimed_askers c_aimed_places c_aimed_seatBits c_aimed_entries c_board_askers c_board_places c_steadiness_most c_steadiness_tight c_steady_askers c_steady_places c_steady_seatBits c_steady_entries c_aimed_best c_aimed_clipAll c_aimed_clipToOne c_aimed_clipToTwo c_aimed_firstOf o1 c_aimed_left c_aimed_next c_aimed_solvedGains c_aimed_ways c_all_slots c_board_likes c_board_seats c_board_wishes c_steadiness_firsts c_steady_best c_steady_clipAll c_steady_clipToOne c_steady_clipToTwo c_steady_firstOf c_steady_gains c_steady_left c_steady_next c_steady_solvedGains c_steady_ways u_above u_below u_board_age)) (wc := (w_X5_fillGains c_steadiness_tight c_aimed_gains c_board_askers c_board_places c_steadiness_firsts c_board_wishes c_steadiness_most c_aimed_askers c_aimed_places c_aimed_seatBits c_aimed_entries u_board_age)) (wc2 := (w_X5_fillGains c_steadiness_tight o1 c_board_askers c_board_places c_steadiness_firsts c_board_wishes c_steadiness_most c_aimed_askers c_aimed_places c_aimed_seatBits c_aimed_entries u_board_age)) (rest := []) (rv := []) [3, 1, 10, 2, 19, 18] [2, 13, 11, 5, 14, 12, 9, 15, 6, 7, 8, 17, 16, 1006] [0, 4, 5, 6, 7, 8, 9, 11, 12, 13, 14, 15, 16, 17, 20, 21, 22, 23, 24, 25, 26, 27, 28, 29] [0, 25, 27, 24, 1, 2, 3, 4, 5, 6, 26, 7, 8, 9, 10, 11, 12, 13, 29, 28, 14, 15, 16, 17, 18, 19, 20, 21, 22, 23] (c_X5_fillGains hc2) cw_X5_fillGains m_X7_197 dX7_standingMany_42 rfl ⟨leb rfl, leb rfl⟩ ⟨rfl, rfl⟩ rfl ⟨_, rfl, rfl⟩ (Fit.mk rfl rfl rfl) rfl (leb rfl) (ROsub.nil rfl rfl) rfl ?_
  change GG _ _ _ _ _ _ _ _ _ (w_X7_standingMany c_aimed_askers c_aimed_places c_aimed_seatBits c_aimed_entries c_board_askers c_board_places c_steadiness_most c_steadiness_tight c_steady_askers c_steady_places c_steady_seatBits c_steady_entries c_aimed_best c_aimed_clipAll c_aimed_clipToOne c_aimed_clipToTwo c_aimed_firstOf o1 c_aimed_left c_aimed_next c_aimed_solvedGains c_aimed_ways c_all_slots c_board_likes c_board_seats c_board_wishes c_steadiness_firsts c_steady_best c_steady_clipAll c_steady_clipToOne c_steady_clipToTwo c_steady_firstOf c_steady_gains c_steady_left c_steady_next c_steady_solvedGains c_steady_ways u_above u_below u_board_age) [some (.ref 0), some (.int v1), none] []
  refine G_aload_n dX7_standingMany_45 rfl rfl ?_
  refine G_get (v := .ref 1) F_X7_28 dX7_standingMany_46 rfl rfl ?_
  obtain ⟨⟨o3, o4, o5, o6, o7, o8, o9, o10, o11, o12, o13, o14, o15, o16⟩, hc17, hf⟩ := ob hf
  refine G_callV (μ2 := mu_X4_solve) (As := []) (w2 := (w_X7_standingMany o3 o4 o5 o6 c_board_askers c_board_places c_steadiness_most c_steadiness_tight c_steady_askers c_steady_places c_steady_seatBits c_steady_entries o7 o8 o9 o10 o11 o1 o12 o13 o15 o16 o14 c_board_likes c_board_seats c_board_wishes c_steadiness_firsts c_steady_best c_steady_clipAll c_steady_clipToOne c_steady_clipToTwo c_steady_firstOf c_steady_gains c_steady_left c_steady_next c_steady_solvedGains c_steady_ways u_above u_below u_board_age)) (wc := (w_X4_solve c_aimed_askers c_aimed_places c_aimed_seatBits c_aimed_entries c_aimed_best c_board_askers c_board_places c_aimed_clipAll c_aimed_clipToOne c_aimed_clipToTwo c_aimed_firstOf o1 c_aimed_left c_aimed_next c_all_slots c_aimed_solvedGains c_aimed_ways c_board_seats u_board_age)) (wc2 := (w_X4_solve o3 o4 o5 o6 o7 c_board_askers c_board_places o8 o9 o10 o11 o1 o12 o13 o14 o15 o16 c_board_seats u_board_age)) (rest := []) (rv := []) [1, 5, 2, 6, 7, 8, 9, 10, 11, 12, 15, 13, 14, 17] [18, 16, 1006] [0, 3, 4, 16, 18, 19, 20, 21, 22, 23, 24, 25, 26, 27, 28, 29] [0, 16, 18, 1, 2, 17, 19, 20, 21, 22, 23, 24, 25, 27, 28, 26, 3, 29, 4, 5, 6, 7, 8, 9, 10, 11, 12, 13, 14, 15] (c_X4_solve hc17) cw_X4_solve m_X7_201 dX7_standingMany_49 rfl ⟨leb rfl, leb rfl⟩ ⟨rfl, rfl⟩ rfl ⟨_, rfl, rfl⟩ (Fit.mk rfl rfl rfl) rfl (leb rfl) (ROsub.nil rfl rfl) rfl ?_
  change GG _ _ _ _ _ _ _ _ _ (w_X7_standingMany o3 o4 o5 o6 c_board_askers c_board_places c_steadiness_most c_steadiness_tight c_steady_askers c_steady_places c_steady_seatBits c_steady_entries o7 o8 o9 o10 o11 o1 o12 o13 o15 o16 o14 c_board_likes c_board_seats c_board_wishes c_steadiness_firsts c_steady_best c_steady_clipAll c_steady_clipToOne c_steady_clipToTwo c_steady_firstOf c_steady_gains c_steady_left c_steady_next c_steady_solvedGains c_steady_ways u_above u_below u_board_age) [some (.ref 0), some (.int v1), none] []
  refine G_aload_n dX7_standingMany_52 rfl rfl ?_
  refine G_get (v := .ref 1) F_X7_28 dX7_standingMany_53 rfl rfl ?_
  obtain ⟨r18, hc19, hf⟩ := ob hf
  refine G_callV (μ2 := mu_X4_bestGain) (As := []) (w2 := (w_X7_standingMany o3 o4 o5 o6 c_board_askers c_board_places c_steadiness_most c_steadiness_tight c_steady_askers c_steady_places c_steady_seatBits c_steady_entries o7 o8 o9 o10 o11 o1 o12 o13 o15 o16 o14 c_board_likes c_board_seats c_board_wishes c_steadiness_firsts c_steady_best c_steady_clipAll c_steady_clipToOne c_steady_clipToTwo c_steady_firstOf c_steady_gains c_steady_left c_steady_next c_steady_solvedGains c_steady_ways u_above u_below u_board_age)) (wc := (w_X4_bestGain o7 o3 o4 o5 o6)) (wc2 := (w_X4_bestGain o7 o3 o4 o5 o6)) (rest := []) (rv := [.int r18]) [1, 5] [2, 10, 13, 11, 14, 12, 9, 15, 6, 7, 8] [0, 2, 3, 4, 6, 7, 8, 9, 10, 11, 12, 13, 14, 15, 16, 17, 18, 19, 20, 21, 22, 23, 24, 25, 26, 27, 28, 29] [0, 28, 1, 2, 3, 29, 4, 5, 6, 7, 8, 9, 10, 11, 12, 13, 14, 15, 16, 17, 18, 19, 20, 21, 22, 23, 24, 25, 26, 27] (c_X4_bestGain hc19) cw_X4_bestGain m_X7_175 dX7_standingMany_56 rfl ⟨leb rfl, leb rfl⟩ ⟨rfl, rfl⟩ rfl ⟨_, rfl, rfl⟩ (Fit.mk rfl rfl rfl) rfl (leb rfl) (ROsub.nil rfl rfl) rfl ?_
  change GG _ _ _ _ _ _ _ _ _ (w_X7_standingMany o3 o4 o5 o6 c_board_askers c_board_places c_steadiness_most c_steadiness_tight c_steady_askers c_steady_places c_steady_seatBits c_steady_entries o7 o8 o9 o10 o11 o1 o12 o13 o15 o16 o14 c_board_likes c_board_seats c_board_wishes c_steadiness_firsts c_steady_best c_steady_clipAll c_steady_clipToOne c_steady_clipToTwo c_steady_firstOf c_steady_gains c_steady_left c_steady_next c_steady_solvedGains c_steady_ways u_above u_below u_board_age) [some (.ref 0), some (.int v1), none] [.int r18]
  refine G_bipush 100 dX7_standingMany_59 (by decide) ?_
  refine G_aload_n dX7_standingMany_61 rfl rfl ?_
  refine G_get (v := .ref 3) F_X7_36 dX7_standingMany_62 rfl rfl ?_
  refine G_get (v := .int c_steadiness_most) F_X7_204 dX7_standingMany_65 rfl rfl ?_
  refine G_imul dX7_standingMany_68 ?_
  refine G_isub dX7_standingMany_69 ?_
  refine G_istore_n dX7_standingMany_70 rfl (ltb rfl) ?_
  change GG _ _ _ _ _ _ _ _ _ _ [some (.ref 0), some (.int v1), some (.int (r18 - (100 * c_steadiness_most)))] _
  refine G_iload_n dX7_standingMany_71 rfl rfl ?_
  refine G_if_ne 79 dX7_standingMany_72 (by decide) (fun h20 => ?_) (fun h20 => ?_)
  · replace hf := ob_f h20 hf
    refine G_iload_n dX7_standingMany_79 rfl rfl ?_
    refine G_ineg dX7_standingMany_80 ?_
    obtain rfl := os hf
    exact G_ireturn dX7_standingMany_81 rfl
  · replace hf := ob_t h20 hf
    refine G_iload_n dX7_standingMany_75 rfl rfl ?_
    refine G_goto 81 dX7_standingMany_76 (by decide) ?_
    obtain rfl := os hf
    exact G_ireturn dX7_standingMany_81 rfl
def f_X7_standingMany_12 (N : Nat) (c_board_askers : Int32) (c_board_places : Int32) (c_board_likes : Nat → Int32) (c_board_seats : Nat → Int32) (c_board_wishes : Nat → Int32) (c_aimed_askers : Int32) (c_aimed_places : Int32) (c_aimed_seatBits : Int32) (c_aimed_entries : Int32) (c_steadiness_most : Int32) (c_steadiness_tight : Int32) (c_steady_askers : Int32) (c_steady_places : Int32) (c_steady_seatBits : Int32) (c_steady_entries : Int32) (c_aimed_best : Nat → Int32) (c_aimed_clipAll : Nat → Int32) (c_aimed_clipToOne : Nat → Int32) (c_aimed_clipToTwo : Nat → Int32) (c_aimed_firstOf : Nat → Int32) (c_aimed_gains : Nat → Int32) (c_aimed_left : Nat → Int32) (c_aimed_next : Nat → Int32) (c_aimed_solvedGains : Nat → Int32) (c_aimed_ways : Nat → Int32) (c_all_slots : Nat → Int32) (c_steadiness_firsts : Nat → Int32) (c_steady_best : Nat → Int32) (c_steady_clipAll : Nat → Int32) (c_steady_clipToOne : Nat → Int32) (c_steady_clipToTwo : Nat → Int32) (c_steady_firstOf : Nat → Int32) (c_steady_gains : Nat → Int32) (c_steady_left : Nat → Int32) (c_steady_next : Nat → Int32) (c_steady_solvedGains : Nat → Int32) (c_steady_ways : Nat → Int32) (v1 : Int32) : Option (Int32 × Int32 × Int32 × Int32 × Int32 × Int32 × Int32 × Int32 × Int32 × Int32 × Int32 × (Nat → Int32) × (Nat → Int32) × (Nat → Int32) × (Nat → Int32) × (Nat → Int32) × (Nat → Int32) × (Nat → Int32) × (Nat → Int32) × (Nat → Int32) × (Nat → Int32) × (Nat → Int32) × (Nat → Int32) × (Nat → Int32) × (Nat → Int32) × (Nat → Int32) × (Nat → Int32) × (Nat → Int32) × (Nat → Int32) × (Nat → Int32) × (Nat → Int32) × (Nat → Int32) × (Nat → Int32)) :=
    (f_X7_standing N c_board_askers c_board_places c_board_likes c_board_seats c_board_wishes c_steadiness_most c_steadiness_tight c_steady_askers c_steady_places c_steady_seatBits c_steady_entries c_all_slots c_steadiness_firsts c_steady_best c_steady_clipAll c_steady_clipToOne c_steady_clipToTwo c_steady_firstOf c_steady_gains c_steady_left c_steady_next c_steady_solvedGains c_steady_ways).bind fun (r1, o2, o3, o4, o5, o6, o7, o8, o9, o10, o11, o12, o13, o14, o15, o16, o17, o18, o19) =>
    (if r1 = 0 then
      some ((-1 : Int32), c_aimed_askers, c_aimed_places, c_aimed_seatBits, c_aimed_entries, o2, o3, o4, o5, o6, o7, c_aimed_best, c_aimed_clipAll, c_aimed_clipToOne, c_aimed_clipToTwo, c_aimed_firstOf, c_aimed_gains, c_aimed_left, c_aimed_next, c_aimed_solvedGains, c_aimed_ways, o8, o9, o10, o11, o12, o13, o14, o15, o16, o17, o18, o19)
    else
      (if v1 = 0 then
        f_X7_standingMany_42 N c_board_askers c_board_places c_board_likes c_board_seats c_board_wishes c_aimed_askers c_aimed_places c_aimed_seatBits c_aimed_entries o2 o3 o4 o5 o6 o7 c_aimed_best c_aimed_clipAll c_aimed_clipToOne c_aimed_clipToTwo c_aimed_firstOf c_aimed_gains c_aimed_left c_aimed_next c_aimed_solvedGains c_aimed_ways o8 o9 o10 o11 o12 o13 o14 o15 o16 o17 o18 o19 v1 100 1
      else
        f_X7_standingMany_42 N c_board_askers c_board_places c_board_likes c_board_seats c_board_wishes c_aimed_askers c_aimed_places c_aimed_seatBits c_aimed_entries o2 o3 o4 o5 o6 o7 c_aimed_best c_aimed_clipAll c_aimed_clipToOne c_aimed_clipToTwo c_aimed_firstOf c_aimed_gains c_aimed_left c_aimed_next c_aimed_solvedGains c_aimed_ways o8 o9 o10 o11 o12 o13 o14 o15 o16 o17 o18 o19 v1 100 (-1 : Int32)))
set_option maxHeartbeats 4000000 in
set_option maxRecDepth 100000 in
theorem g_X7_standingMany_12 {κ : KC} {ω : KW} {A : Nat → Prop} {ad : Nat → Nat} {u_above : Int64} {u_below : Int64} {u_board_age : Int32} {N : Nat} {c_board_askers : Int32} {c_board_places : Int32} {c_board_likes : Nat → Int32} {c_board_seats : Nat → Int32} {c_board_wishes : Nat → Int32}  {res : Int32 × Int32 × Int32 × Int32 × Int32 × Int32 × Int32 × Int32 × Int32 × Int32 × Int32 × (Nat → Int32) × (Nat → Int32) × (Nat → Int32) × (Nat → Int32) × (Nat → Int32) × (Nat → Int32) × (Nat → Int32) × (Nat → Int32) × (Nat → Int32) × (Nat → Int32) × (Nat → Int32) × (Nat → Int32) × (Nat → Int32) × (Nat → Int32) × (Nat → Int32) × (Nat → Int32) × (Nat → Int32) × (Nat → Int32) × (Nat → Int32) × (Nat → Int32) × (Nat → Int32) × (Nat → Int32)} {c_aimed_askers : Int32} {c_aimed_places : Int32} {c_aimed_seatBits : Int32} {c_aimed_entries : Int32} {c_steadiness_most : Int32} {c_steadiness_tight : Int32} {c_steady_askers : Int32} {c_steady_places : Int32} {c_steady_seatBits : Int32} {c_steady_entries : Int32} {c_aimed_best : Nat → Int32} {c_aimed_clipAll : Nat → Int32} {c_aimed_clipToOne : Nat → Int32} {c_aimed_clipToTwo : Nat → Int32} {c_aimed_firstOf : Nat → Int32} {c_aimed_gains : Nat → Int32} {c_aimed_left : Nat → Int32} {c_aimed_next : Nat → Int32} {c_aimed_solvedGains : Nat → Int32} {c_aimed_ways : Nat → Int32} {c_all_slots : Nat → Int32} {c_steadiness_firsts : Nat → Int32} {c_steady_best : Nat → Int32} {c_steady_clipAll : Nat → Int32} {c_steady_clipToOne : Nat → Int32} {c_steady_clipToTwo : Nat → Int32} {c_steady_firstOf : Nat → Int32} {c_steady_gains : Nat → Int32} {c_steady_left : Nat → Int32} {c_steady_next : Nat → Int32} {c_steady_solvedGains : Nat → Int32} {c_steady_ways : Nat → Int32} {v1 : Int32} (hf : f_X7_standingMany_12 N c_board_askers c_board_places c_board_likes c_board_seats c_board_wishes c_aimed_askers c_aimed_places c_aimed_seatBits c_aimed_entries c_steadiness_most c_steadiness_tight c_steady_askers c_steady_places c_steady_seatBits c_steady_entries c_aimed_best c_aimed_clipAll c_aimed_clipToOne c_aimed_clipToTwo c_aimed_firstOf c_aimed_gains c_aimed_left c_aimed_next c_aimed_solvedGains c_aimed_ways c_all_slots c_steadiness_firsts c_steady_best c_steady_clipAll c_steady_clipToOne c_steady_clipToTwo c_steady_firstOf c_steady_gains c_steady_left c_steady_next c_steady_solvedGains c_steady_ways v1 = some res) : GG mu_X7_standingMany κ ω A (QR κ ω A ad (some (.int res.1)) (w_X7_standingMany res.2.1 res.2.2.1 res.2.2.2.1 res.2.2.2.2.1 c_board_askers c_board_places res.2.2.2.2.2.1 res.2.2.2.2.2.2.1 res.2.2.2.2.2.2.2.1 res.2.2.2.2.2.2.2.2.1 res.2.2.2.2.2.2.2.2.2.1 res.2.2.2.2.2.2.2.2.2.2.1 res.2.2.2.2.2.2.2.2.2.2.2.1 res.2.2.2.2.2.2.2.2.2.2.2.2.1 res.2.2.2.2.2.2.2.2.2.2.2.2.2.1 res.2.2.2.2.2.2.2.2.2.2.2.2.2.2.1 res.2.2.2.2.2.2.2.2.2.2.2.2.2.2.2.1 res.2.2.2.2.2.2.2.2.2.2.2.2.2.2.2.2.1 res.2.2.2.2.2.2.2.2.2.2.2.2.2.2.2.2.2.1 res.2.2.2.2.2.2.2.2.2.2.2.2.2.2.2.2.2.2.1 res.2.2.2.2.2.2.2.2.2.2.2.2.2.2.2.2.2.2.2.1 res.2.2.2.2.2.2.2.2.2.2.2.2.2.2.2.2.2.2.2.2.1 res.2.2.2.2.2.2.2.2.2.2.2.2.2.2.2.2.2.2.2.2.2.1 c_board_likes c_board_seats c_board_wishes res.2.2.2.2.2.2.2.2.2.2.2.2.2.2.2.2.2.2.2.2.2.2.1 res.2.2.2.2.2.2.2.2.2.2.2.2.2.2.2.2.2.2.2.2.2.2.2.1 res.2.2.2.2.2.2.2.2.2.2.2.2.2.2.2.2.2.2.2.2.2.2.2.2.1 res.2.2.2.2.2.2.2.2.2.2.2.2.2.2.2.2.2.2.2.2.2.2.2.2.2.1 res.2.2.2.2.2.2.2.2.2.2.2.2.2.2.2.2.2.2.2.2.2.2.2.2.2.2.1 res.2.2.2.2.2.2.2.2.2.2.2.2.2.2.2.2.2.2.2.2.2.2.2.2.2.2.2.1 res.2.2.2.2.2.2.2.2.2.2.2.2.2.2.2.2.2.2.2.2.2.2.2.2.2.2.2.2.1 res.2.2.2.2.2.2.2.2.2.2.2.2.2.2.2.2.2.2.2.2.2.2.2.2.2.2.2.2.2.1 res.2.2.2.2.2.2.2.2.2.2.2.2.2.2.2.2.2.2.2.2.2.2.2.2.2.2.2.2.2.2.1 res.2.2.2.2.2.2.2.2.2.2.2.2.2.2.2.2.2.2.2.2.2.2.2.2.2.2.2.2.2.2.2.1 res.2.2.2.2.2.2.2.2.2.2.2.2.2.2.2.2.2.2.2.2.2.2.2.2.2.2.2.2.2.2.2.2 u_above u_below u_board_age)) ad 0 0 12 (w_X7_standingMany c_aimed_askers c_aimed_places c_aimed_seatBits c_aimed_entries c_board_askers c_board_places c_steadiness_most c_steadiness_tight c_steady_askers c_steady_places c_steady_seatBits c_steady_entries c_aimed_best c_aimed_clipAll c_aimed_clipToOne c_aimed_clipToTwo c_aimed_firstOf c_aimed_gains c_aimed_left c_aimed_next c_aimed_solvedGains c_aimed_ways c_all_slots c_board_likes c_board_seats c_board_wishes c_steadiness_firsts c_steady_best c_steady_clipAll c_steady_clipToOne c_steady_clipToTwo c_steady_firstOf c_steady_gains c_steady_left c_steady_next c_steady_solvedGains c_steady_ways u_above u_below u_board_age) [some (.ref 0), some (.int v1), none] [] := by
  refine G_aload_n dX7_standingMany_12 rfl rfl ?_
  obtain ⟨⟨r1, o2, o3, o4, o5, o6, o7, o8, o9, o10, o11, o12, o13, o14, o15, o16, o17, o18, o19⟩, hc20, hf⟩ := ob hf
  refine G_callV (μ2 := mu_X7_standing) (As := []) (w2 := (w_X7_standingMany c_aimed_askers c_aimed_places c_aimed_seatBits c_aimed_entries c_board_askers c_board_places o2 o3 o4 o5 o6 o7 c_aimed_best c_aimed_clipAll c_aimed_clipToOne c_aimed_clipToTwo c_aimed_firstOf c_aimed_gains c_aimed_left c_aimed_next c_aimed_solvedGains c_aimed_ways o8 c_board_likes c_board_seats c_board_wishes o9 o10 o11 o12 o13 o14 o15 o16 o17 o18 o19 u_above u_below u_board_age)) (wc := (w_X7_standing c_board_askers c_board_places c_steadiness_most c_steadiness_tight c_steady_askers c_steady_places c_steady_seatBits c_steady_entries c_all_slots c_board_likes c_board_seats c_board_wishes c_steadiness_firsts c_steady_best c_steady_clipAll c_steady_clipToOne c_steady_clipToTwo c_steady_firstOf c_steady_gains c_steady_left c_steady_next c_steady_solvedGains c_steady_ways u_above u_below u_board_age)) (wc2 := (w_X7_standing c_board_askers c_board_places o2 o3 o4 o5 o6 o7 o8 c_board_likes c_board_seats c_board_wishes o9 o10 o11 o12 o13 o14 o15 o16 o17 o18 o19 u_above u_below u_board_age)) (rest := []) (rv := [.long r1]) [0, 2, 3, 4, 15, 16, 17, 18, 19, 20, 21, 22, 23, 24, 25, 26, 27, 28, 29] [1000, 1, 1001, 1002, 1003, 1004, 1005, 1006] [1, 5, 6, 7, 8, 9, 10, 11, 12, 13, 14] [11, 0, 12, 13, 14, 1, 2, 3, 4, 5, 6, 7, 8, 9, 10, 15, 16, 17, 18, 19, 20, 21, 22, 23, 24, 25, 26, 27, 28, 29] (c_X7_standing hc20) cw_X7_standing m_X7_207 dX7_standingMany_13 rfl ⟨leb rfl, leb rfl⟩ ⟨rfl, rfl⟩ rfl ⟨_, rfl, rfl⟩ (Fit.mk rfl rfl rfl) rfl (leb rfl) (ROsub.nil rfl rfl) rfl ?_
  change GG _ _ _ _ _ _ _ _ _ (w_X7_standingMany c_aimed_askers c_aimed_places c_aimed_seatBits c_aimed_entries c_board_askers c_board_places o2 o3 o4 o5 o6 o7 c_aimed_best c_aimed_clipAll c_aimed_clipToOne c_aimed_clipToTwo c_aimed_firstOf c_aimed_gains c_aimed_left c_aimed_next c_aimed_solvedGains c_aimed_ways o8 c_board_likes c_board_seats c_board_wishes o9 o10 o11 o12 o13 o14 o15 o16 o17 o18 o19 u_above u_below u_board_age) [some (.ref 0), some (.int v1), none] [.long r1]
  refine G_lconst 0 dX7_standingMany_16 (by decide) ?_
  refine G_lcmp_ne 23 dX7_standingMany_17 dX7_standingMany_18 (by decide) (fun h21 => ?_) (fun h21 => ?_)
  · replace hf := ob_f h21 hf
    refine G_aload_n dX7_standingMany_23 rfl rfl ?_
    refine G_get (v := .ref 3) F_X7_36 dX7_standingMany_24 rfl rfl ?_
    refine G_aload_n dX7_standingMany_27 rfl rfl ?_
    refine G_get (v := .ref 1) F_X7_28 dX7_standingMany_28 rfl rfl ?_
    refine G_bipush 100 dX7_standingMany_31 (by decide) ?_
    refine G_iload_n dX7_standingMany_33 rfl rfl ?_
    refine G_if_ne 41 dX7_standingMany_34 (by decide) (fun h22 => ?_) (fun h22 => ?_)
    · replace hf := ob_f h22 hf
      refine G_iconst (-1 : Int32) dX7_standingMany_41 (by decide) ?_
      exact g_X7_standingMany_42 hf
    · replace hf := ob_t h22 hf
      refine G_iconst 1 dX7_standingMany_37 (by decide) ?_
      refine G_goto 42 dX7_standingMany_38 (by decide) ?_
      exact g_X7_standingMany_42 hf
  · replace hf := ob_t h21 hf
    refine G_iconst (-1 : Int32) dX7_standingMany_21 (by decide) ?_
    obtain rfl := os hf
    exact G_ireturn dX7_standingMany_22 rfl
def f_X7_standingMany (N : Nat) (c_board_askers : Int32) (c_board_places : Int32) (c_board_likes : Nat → Int32) (c_board_seats : Nat → Int32) (c_board_wishes : Nat → Int32) (c_aimed_askers : Int32) (c_aimed_places : Int32) (c_aimed_seatBits : Int32) (c_aimed_entries : Int32) (c_steadiness_most : Int32) (c_steadiness_tight : Int32) (c_steady_askers : Int32) (c_steady_places : Int32) (c_steady_seatBits : Int32) (c_steady_entries : Int32) (c_aimed_best : Nat → Int32) (c_aimed_clipAll : Nat → Int32) (c_aimed_clipToOne : Nat → Int32) (c_aimed_clipToTwo : Nat → Int32) (c_aimed_firstOf : Nat → Int32) (c_aimed_gains : Nat → Int32) (c_aimed_left : Nat → Int32) (c_aimed_next : Nat → Int32) (c_aimed_solvedGains : Nat → Int32) (c_aimed_ways : Nat → Int32) (c_all_slots : Nat → Int32) (c_steadiness_firsts : Nat → Int32) (c_steady_best : Nat → Int32) (c_steady_clipAll : Nat → Int32) (c_steady_clipToOne : Nat → Int32) (c_steady_clipToTwo : Nat → Int32) (c_steady_firstOf : Nat → Int32) (c_steady_gains : Nat → Int32) (c_steady_left : Nat → Int32) (c_steady_next : Nat → Int32) (c_steady_solvedGains : Nat → Int32) (c_steady_ways : Nat → Int32) (a1 : Int32) : Option (Int32 × Int32 × Int32 × Int32 × Int32 × Int32 × Int32 × Int32 × Int32 × Int32 × Int32 × (Nat → Int32) × (Nat → Int32) × (Nat → Int32) × (Nat → Int32) × (Nat → Int32) × (Nat → Int32) × (Nat → Int32) × (Nat → Int32) × (Nat → Int32) × (Nat → Int32) × (Nat → Int32) × (Nat → Int32) × (Nat → Int32) × (Nat → Int32) × (Nat → Int32) × (Nat → Int32) × (Nat → Int32) × (Nat → Int32) × (Nat → Int32) × (Nat → Int32) × (Nat → Int32) × (Nat → Int32)) :=
  (if a1 = 0 then
    f_X7_standingMany_12 N c_board_askers c_board_places c_board_likes c_board_seats c_board_wishes c_aimed_askers c_aimed_places c_aimed_seatBits c_aimed_entries c_steadiness_most c_steadiness_tight c_steady_askers c_steady_places c_steady_seatBits c_steady_entries c_aimed_best c_aimed_clipAll c_aimed_clipToOne c_aimed_clipToTwo c_aimed_firstOf c_aimed_gains c_aimed_left c_aimed_next c_aimed_solvedGains c_aimed_ways c_all_slots c_steadiness_firsts c_steady_best c_steady_clipAll c_steady_clipToOne c_steady_clipToTwo c_steady_firstOf c_steady_gains c_steady_left c_steady_next c_steady_solvedGains c_steady_ways a1
  else
    (if a1 = 1 then
      f_X7_standingMany_12 N c_board_askers c_board_places c_board_likes c_board_seats c_board_wishes c_aimed_askers c_aimed_places c_aimed_seatBits c_aimed_entries c_steadiness_most c_steadiness_tight c_steady_askers c_steady_places c_steady_seatBits c_steady_entries c_aimed_best c_aimed_clipAll c_aimed_clipToOne c_aimed_clipToTwo c_aimed_firstOf c_aimed_gains c_aimed_left c_aimed_next c_aimed_solvedGains c_aimed_ways c_all_slots c_steadiness_firsts c_steady_best c_steady_clipAll c_steady_clipToOne c_steady_clipToTwo c_steady_firstOf c_steady_gains c_steady_left c_steady_next c_steady_solvedGains c_steady_ways a1
    else
      some ((-2 : Int32), c_aimed_askers, c_aimed_places, c_aimed_seatBits, c_aimed_entries, c_steadiness_most, c_steadiness_tight, c_steady_askers, c_steady_places, c_steady_seatBits, c_steady_entries, c_aimed_best, c_aimed_clipAll, c_aimed_clipToOne, c_aimed_clipToTwo, c_aimed_firstOf, c_aimed_gains, c_aimed_left, c_aimed_next, c_aimed_solvedGains, c_aimed_ways, c_all_slots, c_steadiness_firsts, c_steady_best, c_steady_clipAll, c_steady_clipToOne, c_steady_clipToTwo, c_steady_firstOf, c_steady_gains, c_steady_left, c_steady_next, c_steady_solvedGains, c_steady_ways)))
set_option maxHeartbeats 4000000 in
set_option maxRecDepth 100000 in
theorem c_X7_standingMany {N : Nat} {c_board_askers : Int32} {c_board_places : Int32} {c_board_likes : Nat → Int32} {c_board_seats : Nat → Int32} {c_board_wishes : Nat → Int32} {c_aimed_askers : Int32} {c_aimed_places : Int32} {c_aimed_seatBits : Int32} {c_aimed_entries : Int32} {c_steadiness_most : Int32} {c_steadiness_tight : Int32} {c_steady_askers : Int32} {c_steady_places : Int32} {c_steady_seatBits : Int32} {c_steady_entries : Int32} {c_aimed_best : Nat → Int32} {c_aimed_clipAll : Nat → Int32} {c_aimed_clipToOne : Nat → Int32} {c_aimed_clipToTwo : Nat → Int32} {c_aimed_firstOf : Nat → Int32} {c_aimed_gains : Nat → Int32} {c_aimed_left : Nat → Int32} {c_aimed_next : Nat → Int32} {c_aimed_solvedGains : Nat → Int32} {c_aimed_ways : Nat → Int32} {c_all_slots : Nat → Int32} {c_steadiness_firsts : Nat → Int32} {c_steady_best : Nat → Int32} {c_steady_clipAll : Nat → Int32} {c_steady_clipToOne : Nat → Int32} {c_steady_clipToTwo : Nat → Int32} {c_steady_firstOf : Nat → Int32} {c_steady_gains : Nat → Int32} {c_steady_left : Nat → Int32} {c_steady_next : Nat → Int32} {c_steady_solvedGains : Nat → Int32} {c_steady_ways : Nat → Int32} {u_above : Int64} {u_below : Int64} {u_board_age : Int32} {a1 : Int32} {res : Int32 × Int32 × Int32 × Int32 × Int32 × Int32 × Int32 × Int32 × Int32 × Int32 × Int32 × (Nat → Int32) × (Nat → Int32) × (Nat → Int32) × (Nat → Int32) × (Nat → Int32) × (Nat → Int32) × (Nat → Int32) × (Nat → Int32) × (Nat → Int32) × (Nat → Int32) × (Nat → Int32) × (Nat → Int32) × (Nat → Int32) × (Nat → Int32) × (Nat → Int32) × (Nat → Int32) × (Nat → Int32) × (Nat → Int32) × (Nat → Int32) × (Nat → Int32) × (Nat → Int32) × (Nat → Int32)} (hf : f_X7_standingMany N c_board_askers c_board_places c_board_likes c_board_seats c_board_wishes c_aimed_askers c_aimed_places c_aimed_seatBits c_aimed_entries c_steadiness_most c_steadiness_tight c_steady_askers c_steady_places c_steady_seatBits c_steady_entries c_aimed_best c_aimed_clipAll c_aimed_clipToOne c_aimed_clipToTwo c_aimed_firstOf c_aimed_gains c_aimed_left c_aimed_next c_aimed_solvedGains c_aimed_ways c_all_slots c_steadiness_firsts c_steady_best c_steady_clipAll c_steady_clipToOne c_steady_clipToTwo c_steady_firstOf c_steady_gains c_steady_left c_steady_next c_steady_solvedGains c_steady_ways a1 = some res) : Con mu_X7_standingMany [.ref 0, .int a1] (w_X7_standingMany c_aimed_askers c_aimed_places c_aimed_seatBits c_aimed_entries c_board_askers c_board_places c_steadiness_most c_steadiness_tight c_steady_askers c_steady_places c_steady_seatBits c_steady_entries c_aimed_best c_aimed_clipAll c_aimed_clipToOne c_aimed_clipToTwo c_aimed_firstOf c_aimed_gains c_aimed_left c_aimed_next c_aimed_solvedGains c_aimed_ways c_all_slots c_board_likes c_board_seats c_board_wishes c_steadiness_firsts c_steady_best c_steady_clipAll c_steady_clipToOne c_steady_clipToTwo c_steady_firstOf c_steady_gains c_steady_left c_steady_next c_steady_solvedGains c_steady_ways u_above u_below u_board_age) (some (.int res.1)) (w_X7_standingMany res.2.1 res.2.2.1 res.2.2.2.1 res.2.2.2.2.1 c_board_askers c_board_places res.2.2.2.2.2.1 res.2.2.2.2.2.2.1 res.2.2.2.2.2.2.2.1 res.2.2.2.2.2.2.2.2.1 res.2.2.2.2.2.2.2.2.2.1 res.2.2.2.2.2.2.2.2.2.2.1 res.2.2.2.2.2.2.2.2.2.2.2.1 res.2.2.2.2.2.2.2.2.2.2.2.2.1 res.2.2.2.2.2.2.2.2.2.2.2.2.2.1 res.2.2.2.2.2.2.2.2.2.2.2.2.2.2.1 res.2.2.2.2.2.2.2.2.2.2.2.2.2.2.2.1 res.2.2.2.2.2.2.2.2.2.2.2.2.2.2.2.2.1 res.2.2.2.2.2.2.2.2.2.2.2.2.2.2.2.2.2.1 res.2.2.2.2.2.2.2.2.2.2.2.2.2.2.2.2.2.2.1 res.2.2.2.2.2.2.2.2.2.2.2.2.2.2.2.2.2.2.2.1 res.2.2.2.2.2.2.2.2.2.2.2.2.2.2.2.2.2.2.2.2.1 res.2.2.2.2.2.2.2.2.2.2.2.2.2.2.2.2.2.2.2.2.2.1 c_board_likes c_board_seats c_board_wishes res.2.2.2.2.2.2.2.2.2.2.2.2.2.2.2.2.2.2.2.2.2.2.1 res.2.2.2.2.2.2.2.2.2.2.2.2.2.2.2.2.2.2.2.2.2.2.2.1 res.2.2.2.2.2.2.2.2.2.2.2.2.2.2.2.2.2.2.2.2.2.2.2.2.1 res.2.2.2.2.2.2.2.2.2.2.2.2.2.2.2.2.2.2.2.2.2.2.2.2.2.1 res.2.2.2.2.2.2.2.2.2.2.2.2.2.2.2.2.2.2.2.2.2.2.2.2.2.2.1 res.2.2.2.2.2.2.2.2.2.2.2.2.2.2.2.2.2.2.2.2.2.2.2.2.2.2.2.1 res.2.2.2.2.2.2.2.2.2.2.2.2.2.2.2.2.2.2.2.2.2.2.2.2.2.2.2.2.1 res.2.2.2.2.2.2.2.2.2.2.2.2.2.2.2.2.2.2.2.2.2.2.2.2.2.2.2.2.2.1 res.2.2.2.2.2.2.2.2.2.2.2.2.2.2.2.2.2.2.2.2.2.2.2.2.2.2.2.2.2.2.1 res.2.2.2.2.2.2.2.2.2.2.2.2.2.2.2.2.2.2.2.2.2.2.2.2.2.2.2.2.2.2.2.1 res.2.2.2.2.2.2.2.2.2.2.2.2.2.2.2.2.2.2.2.2.2.2.2.2.2.2.2.2.2.2.2.2 u_above u_below u_board_age) := by
  refine Con.mk (show plainName RX7 = true by decide +kernel) (leb rfl) (fun κ ω A ad => ?_)
  change GG mu_X7_standingMany κ ω A (QR κ ω A ad (some (.int res.1)) (w_X7_standingMany res.2.1 res.2.2.1 res.2.2.2.1 res.2.2.2.2.1 c_board_askers c_board_places res.2.2.2.2.2.1 res.2.2.2.2.2.2.1 res.2.2.2.2.2.2.2.1 res.2.2.2.2.2.2.2.2.1 res.2.2.2.2.2.2.2.2.2.1 res.2.2.2.2.2.2.2.2.2.2.1 res.2.2.2.2.2.2.2.2.2.2.2.1 res.2.2.2.2.2.2.2.2.2.2.2.2.1 res.2.2.2.2.2.2.2.2.2.2.2.2.2.1 res.2.2.2.2.2.2.2.2.2.2.2.2.2.2.1 res.2.2.2.2.2.2.2.2.2.2.2.2.2.2.2.1 res.2.2.2.2.2.2.2.2.2.2.2.2.2.2.2.2.1 res.2.2.2.2.2.2.2.2.2.2.2.2.2.2.2.2.2.1 res.2.2.2.2.2.2.2.2.2.2.2.2.2.2.2.2.2.2.1 res.2.2.2.2.2.2.2.2.2.2.2.2.2.2.2.2.2.2.2.1 res.2.2.2.2.2.2.2.2.2.2.2.2.2.2.2.2.2.2.2.2.1 res.2.2.2.2.2.2.2.2.2.2.2.2.2.2.2.2.2.2.2.2.2.1 c_board_likes c_board_seats c_board_wishes res.2.2.2.2.2.2.2.2.2.2.2.2.2.2.2.2.2.2.2.2.2.2.1 res.2.2.2.2.2.2.2.2.2.2.2.2.2.2.2.2.2.2.2.2.2.2.2.1 res.2.2.2.2.2.2.2.2.2.2.2.2.2.2.2.2.2.2.2.2.2.2.2.2.1 res.2.2.2.2.2.2.2.2.2.2.2.2.2.2.2.2.2.2.2.2.2.2.2.2.2.1 res.2.2.2.2.2.2.2.2.2.2.2.2.2.2.2.2.2.2.2.2.2.2.2.2.2.2.1 res.2.2.2.2.2.2.2.2.2.2.2.2.2.2.2.2.2.2.2.2.2.2.2.2.2.2.2.1 res.2.2.2.2.2.2.2.2.2.2.2.2.2.2.2.2.2.2.2.2.2.2.2.2.2.2.2.2.1 res.2.2.2.2.2.2.2.2.2.2.2.2.2.2.2.2.2.2.2.2.2.2.2.2.2.2.2.2.2.1 res.2.2.2.2.2.2.2.2.2.2.2.2.2.2.2.2.2.2.2.2.2.2.2.2.2.2.2.2.2.2.1 res.2.2.2.2.2.2.2.2.2.2.2.2.2.2.2.2.2.2.2.2.2.2.2.2.2.2.2.2.2.2.2.1 res.2.2.2.2.2.2.2.2.2.2.2.2.2.2.2.2.2.2.2.2.2.2.2.2.2.2.2.2.2.2.2.2 u_above u_below u_board_age)) ad 0 0 0 (w_X7_standingMany c_aimed_askers c_aimed_places c_aimed_seatBits c_aimed_entries c_board_askers c_board_places c_steadiness_most c_steadiness_tight c_steady_askers c_steady_places c_steady_seatBits c_steady_entries c_aimed_best c_aimed_clipAll c_aimed_clipToOne c_aimed_clipToTwo c_aimed_firstOf c_aimed_gains c_aimed_left c_aimed_next c_aimed_solvedGains c_aimed_ways c_all_slots c_board_likes c_board_seats c_board_wishes c_steadiness_firsts c_steady_best c_steady_clipAll c_steady_clipToOne c_steady_clipToTwo c_steady_firstOf c_steady_gains c_steady_left c_steady_next c_steady_solvedGains c_steady_ways u_above u_below u_board_age) [some (.ref 0), some (.int a1), none] []
  refine G_iload_n dX7_standingMany_0 rfl rfl ?_
  refine G_if_eq 12 dX7_standingMany_1 (by decide) (fun h1 => ?_) (fun h1 => ?_)
  · replace hf := ob_t h1 hf
    exact g_X7_standingMany_12 hf
  · replace hf := ob_f h1 hf
    refine G_iload_n dX7_standingMany_4 rfl rfl ?_
    refine G_iconst 1 dX7_standingMany_5 (by decide) ?_
    refine G_icmp_eq 12 dX7_standingMany_6 (by decide) (fun h2 => ?_) (fun h2 => ?_)
    · replace hf := ob_t h2 hf
      exact g_X7_standingMany_12 hf
    · replace hf := ob_f h2 hf
      refine G_bipush (-2 : Int32) dX7_standingMany_9 (by decide) ?_
      obtain rfl := os hf
      exact G_ireturn dX7_standingMany_11 rfl
set_option maxRecDepth 20000 in
theorem dX7_isOrder_0 : decode cX7_isOrder 0 = .ok (.iload_n 1, 1) := by decide +kernel
set_option maxRecDepth 20000 in
theorem dX7_isOrder_1 : decode cX7_isOrder 1 = .ok (.ifCond .lt 18, 3) := by decide +kernel
set_option maxRecDepth 20000 in
theorem dX7_isOrder_4 : decode cX7_isOrder 4 = .ok (.iload_n 1, 1) := by decide +kernel
set_option maxRecDepth 20000 in
theorem dX7_isOrder_5 : decode cX7_isOrder 5 = .ok (.iconst 1, 1) := by decide +kernel
set_option maxRecDepth 20000 in
theorem dX7_isOrder_6 : decode cX7_isOrder 6 = .ok (.iconst 3, 1) := by decide +kernel
set_option maxRecDepth 20000 in
theorem dX7_isOrder_7 : decode cX7_isOrder 7 = .ok (.aload_n 0, 1) := by decide +kernel
set_option maxRecDepth 20000 in
theorem dX7_isOrder_8 : decode cX7_isOrder 8 = .ok (.getfield 10, 3) := by decide +kernel
set_option maxRecDepth 20000 in
theorem dX7_isOrder_11 : decode cX7_isOrder 11 = .ok (.getfield 79, 3) := by decide +kernel
set_option maxRecDepth 20000 in
theorem dX7_isOrder_14 : decode cX7_isOrder 14 = .ok (.imul, 1) := by decide +kernel
set_option maxRecDepth 20000 in
theorem dX7_isOrder_15 : decode cX7_isOrder 15 = .ok (.ishl, 1) := by decide +kernel
set_option maxRecDepth 20000 in
theorem dX7_isOrder_16 : decode cX7_isOrder 16 = .ok (.if_icmp .lt 5, 3) := by decide +kernel
set_option maxRecDepth 20000 in
theorem dX7_isOrder_19 : decode cX7_isOrder 19 = .ok (.iconst 0, 1) := by decide +kernel
set_option maxRecDepth 20000 in
theorem dX7_isOrder_20 : decode cX7_isOrder 20 = .ok (.ireturn, 1) := by decide +kernel
set_option maxRecDepth 20000 in
theorem dX7_isOrder_21 : decode cX7_isOrder 21 = .ok (.iconst 0, 1) := by decide +kernel
set_option maxRecDepth 20000 in
theorem dX7_isOrder_22 : decode cX7_isOrder 22 = .ok (.istore_n 2, 1) := by decide +kernel
set_option maxRecDepth 20000 in
theorem dX7_isOrder_23 : decode cX7_isOrder 23 = .ok (.iconst 0, 1) := by decide +kernel
set_option maxRecDepth 20000 in
theorem dX7_isOrder_24 : decode cX7_isOrder 24 = .ok (.istore_n 3, 1) := by decide +kernel
set_option maxRecDepth 20000 in
theorem dX7_isOrder_25 : decode cX7_isOrder 25 = .ok (.iload_n 3, 1) := by decide +kernel
set_option maxRecDepth 20000 in
theorem dX7_isOrder_26 : decode cX7_isOrder 26 = .ok (.aload_n 0, 1) := by decide +kernel
set_option maxRecDepth 20000 in
theorem dX7_isOrder_27 : decode cX7_isOrder 27 = .ok (.getfield 10, 3) := by decide +kernel
set_option maxRecDepth 20000 in
theorem dX7_isOrder_30 : decode cX7_isOrder 30 = .ok (.getfield 79, 3) := by decide +kernel
set_option maxRecDepth 20000 in
theorem dX7_isOrder_33 : decode cX7_isOrder 33 = .ok (.if_icmp .ge 22, 3) := by decide +kernel
set_option maxRecDepth 20000 in
theorem dX7_isOrder_36 : decode cX7_isOrder 36 = .ok (.iload_n 2, 1) := by decide +kernel
set_option maxRecDepth 20000 in
theorem dX7_isOrder_37 : decode cX7_isOrder 37 = .ok (.iconst 1, 1) := by decide +kernel
set_option maxRecDepth 20000 in
theorem dX7_isOrder_38 : decode cX7_isOrder 38 = .ok (.iload_n 1, 1) := by decide +kernel
set_option maxRecDepth 20000 in
theorem dX7_isOrder_39 : decode cX7_isOrder 39 = .ok (.iconst 3, 1) := by decide +kernel
set_option maxRecDepth 20000 in
theorem dX7_isOrder_40 : decode cX7_isOrder 40 = .ok (.iload_n 3, 1) := by decide +kernel
set_option maxRecDepth 20000 in
theorem dX7_isOrder_41 : decode cX7_isOrder 41 = .ok (.imul, 1) := by decide +kernel
set_option maxRecDepth 20000 in
theorem dX7_isOrder_42 : decode cX7_isOrder 42 = .ok (.ishr, 1) := by decide +kernel
set_option maxRecDepth 20000 in
theorem dX7_isOrder_43 : decode cX7_isOrder 43 = .ok (.bipush 7, 2) := by decide +kernel
set_option maxRecDepth 20000 in
theorem dX7_isOrder_45 : decode cX7_isOrder 45 = .ok (.iand, 1) := by decide +kernel
set_option maxRecDepth 20000 in
theorem dX7_isOrder_46 : decode cX7_isOrder 46 = .ok (.ishl, 1) := by decide +kernel
set_option maxRecDepth 20000 in
theorem dX7_isOrder_47 : decode cX7_isOrder 47 = .ok (.ior, 1) := by decide +kernel
set_option maxRecDepth 20000 in
theorem dX7_isOrder_48 : decode cX7_isOrder 48 = .ok (.istore_n 2, 1) := by decide +kernel
set_option maxRecDepth 20000 in
theorem dX7_isOrder_49 : decode cX7_isOrder 49 = .ok (.iinc 3 1, 3) := by decide +kernel
set_option maxRecDepth 20000 in
theorem dX7_isOrder_52 : decode cX7_isOrder 52 = .ok (.goto (-27), 3) := by decide +kernel
set_option maxRecDepth 20000 in
theorem dX7_isOrder_55 : decode cX7_isOrder 55 = .ok (.iload_n 2, 1) := by decide +kernel
set_option maxRecDepth 20000 in
theorem dX7_isOrder_56 : decode cX7_isOrder 56 = .ok (.iconst 1, 1) := by decide +kernel
set_option maxRecDepth 20000 in
theorem dX7_isOrder_57 : decode cX7_isOrder 57 = .ok (.aload_n 0, 1) := by decide +kernel
set_option maxRecDepth 20000 in
theorem dX7_isOrder_58 : decode cX7_isOrder 58 = .ok (.getfield 10, 3) := by decide +kernel
set_option maxRecDepth 20000 in
theorem dX7_isOrder_61 : decode cX7_isOrder 61 = .ok (.getfield 79, 3) := by decide +kernel
set_option maxRecDepth 20000 in
theorem dX7_isOrder_64 : decode cX7_isOrder 64 = .ok (.ishl, 1) := by decide +kernel
set_option maxRecDepth 20000 in
theorem dX7_isOrder_65 : decode cX7_isOrder 65 = .ok (.iconst 1, 1) := by decide +kernel
set_option maxRecDepth 20000 in
theorem dX7_isOrder_66 : decode cX7_isOrder 66 = .ok (.isub, 1) := by decide +kernel
set_option maxRecDepth 20000 in
theorem dX7_isOrder_67 : decode cX7_isOrder 67 = .ok (.if_icmp .ne 7, 3) := by decide +kernel
set_option maxRecDepth 20000 in
theorem dX7_isOrder_70 : decode cX7_isOrder 70 = .ok (.iconst 1, 1) := by decide +kernel
set_option maxRecDepth 20000 in
theorem dX7_isOrder_71 : decode cX7_isOrder 71 = .ok (.goto 4, 3) := by decide +kernel
set_option maxRecDepth 20000 in
theorem dX7_isOrder_74 : decode cX7_isOrder 74 = .ok (.iconst 0, 1) := by decide +kernel
set_option maxRecDepth 20000 in
theorem dX7_isOrder_75 : decode cX7_isOrder 75 = .ok (.ireturn, 1) := by decide +kernel
def f_X7_isOrder_25 (N : Nat) (c_board_askers : Int32) : Nat → Int32 → Int32 → Int32 → Option (Int32)
  | 0, _, _, _ => none
  | n + 1, v1, v2, v3 =>
    (if c_board_askers ≤ v3 then
      (if v2 = (((1 : Int32) <<< (c_board_askers &&& 31)) - 1) then
        some 1
      else
        some 0)
    else
      f_X7_isOrder_25 N c_board_askers n v1 (v2 ||| ((1 : Int32) <<< (((v1 >>> ((3 * v3) &&& 31)) &&& (7 : Int32)) &&& 31))) (v3 + 1))
set_option maxHeartbeats 4000000 in
set_option maxRecDepth 100000 in
theorem g_X7_isOrder_25 {κ : KC} {ω : KW} {A : Nat → Prop} {ad : Nat → Nat} {u_above : Int64} {u_below : Int64} {u_board_places : Int32} {u_board_age : Int32} {N : Nat} {c_board_askers : Int32}  {res : Int32} : ∀ (n : Nat) {v1 : Int32} {v2 : Int32} {v3 : Int32}, f_X7_isOrder_25 N c_board_askers n v1 v2 v3 = some res → GG mu_X7_isOrder κ ω A (QR κ ω A ad (some (.int res)) (w_X7_isOrder c_board_askers u_above u_below u_board_places u_board_age)) ad 0 0 25 (w_X7_isOrder c_board_askers u_above u_below u_board_places u_board_age) [some (.ref 0), some (.int v1), some (.int v2), some (.int v3)] [] := by
  intro n
  induction n with
  | zero => intro v1 v2 v3 hf; exact ob_0 hf
  | succ n ih =>
    intro v1 v2 v3 hf
    refine G_iload_n dX7_isOrder_25 rfl rfl ?_
    refine G_aload_n dX7_isOrder_26 rfl rfl ?_
    refine G_get (v := .ref 1) F_X7_10 dX7_isOrder_27 rfl rfl ?_
    refine G_get (v := .int c_board_askers) F_X7_79 dX7_isOrder_30 rfl rfl ?_
    refine G_icmp_ge 55 dX7_isOrder_33 (by decide) (fun h1 => ?_) (fun h1 => ?_)
    · replace hf := ob_t h1 hf
      refine G_iload_n dX7_isOrder_55 rfl rfl ?_
      refine G_iconst 1 dX7_isOrder_56 (by decide) ?_
      refine G_aload_n dX7_isOrder_57 rfl rfl ?_
      refine G_get (v := .ref 1) F_X7_10 dX7_isOrder_58 rfl rfl ?_
      refine G_get (v := .int c_board_askers) F_X7_79 dX7_isOrder_61 rfl rfl ?_
      refine G_ishl dX7_isOrder_64 ?_
      refine G_iconst 1 dX7_isOrder_65 (by decide) ?_
      refine G_isub dX7_isOrder_66 ?_
      refine G_icmp_ne 74 dX7_isOrder_67 (by decide) (fun h2 => ?_) (fun h2 => ?_)
      · replace hf := ob_f h2 hf
        refine G_iconst 0 dX7_isOrder_74 (by decide) ?_
        obtain rfl := os hf
        exact G_zreturn dX7_isOrder_75 rfl z_0
      · replace hf := ob_t h2 hf
        refine G_iconst 1 dX7_isOrder_70 (by decide) ?_
        refine G_goto 75 dX7_isOrder_71 (by decide) ?_
        obtain rfl := os hf
        exact G_zreturn dX7_isOrder_75 rfl z_1
    · replace hf := ob_f h1 hf
      refine G_iload_n dX7_isOrder_36 rfl rfl ?_
      refine G_iconst 1 dX7_isOrder_37 (by decide) ?_
      refine G_iload_n dX7_isOrder_38 rfl rfl ?_
      refine G_iconst 3 dX7_isOrder_39 (by decide) ?_
      refine G_iload_n dX7_isOrder_40 rfl rfl ?_
      refine G_imul dX7_isOrder_41 ?_
      refine G_ishr dX7_isOrder_42 ?_
      refine G_bipush 7 dX7_isOrder_43 (by decide) ?_
      refine G_iand dX7_isOrder_45 ?_
      refine G_ishl dX7_isOrder_46 ?_
      refine G_ior dX7_isOrder_47 ?_
      refine G_istore_n dX7_isOrder_48 rfl (ltb rfl) ?_
      change GG _ _ _ _ _ _ _ _ _ _ [some (.ref 0), some (.int v1), some (.int (v2 ||| ((1 : Int32) <<< (((v1 >>> ((3 * v3) &&& 31)) &&& (7 : Int32)) &&& 31)))), some (.int v3)] _
      refine G_iinc 1 dX7_isOrder_49 (by decide) rfl (ltb rfl) ?_
      change GG _ _ _ _ _ _ _ _ _ _ [some (.ref 0), some (.int v1), some (.int (v2 ||| ((1 : Int32) <<< (((v1 >>> ((3 * v3) &&& 31)) &&& (7 : Int32)) &&& 31)))), some (.int (v3 + 1))] _
      refine G_goto 25 dX7_isOrder_52 (by decide) ?_
      exact ih hf
def f_X7_isOrder (N : Nat) (c_board_askers : Int32) (a1 : Int32) : Option (Int32) :=
  (if a1 < 0 then
    some 0
  else
    (if a1 < ((1 : Int32) <<< ((3 * c_board_askers) &&& 31)) then
      f_X7_isOrder_25 N c_board_askers N a1 0 0
    else
      some 0))
set_option maxHeartbeats 4000000 in
set_option maxRecDepth 100000 in
theorem c_X7_isOrder {N : Nat} {c_board_askers : Int32}  {u_above : Int64} {u_below : Int64} {u_board_places : Int32} {u_board_age : Int32} {a1 : Int32} {res : Int32} (hf : f_X7_isOrder N c_board_askers a1 = some res) : Con mu_X7_isOrder [.ref 0, .int a1] (w_X7_isOrder c_board_askers u_above u_below u_board_places u_board_age) (some (.int res)) (w_X7_isOrder c_board_askers u_above u_below u_board_places u_board_age) := by
  refine Con.mk (show plainName RX7 = true by decide +kernel) (leb rfl) (fun κ ω A ad => ?_)
  change GG mu_X7_isOrder κ ω A (QR κ ω A ad (some (.int res)) (w_X7_isOrder c_board_askers u_above u_below u_board_places u_board_age)) ad 0 0 0 (w_X7_isOrder c_board_askers u_above u_below u_board_places u_board_age) [some (.ref 0), some (.int a1), none, none] []
  refine G_iload_n dX7_isOrder_0 rfl rfl ?_
  refine G_if_lt 19 dX7_isOrder_1 (by decide) (fun h1 => ?_) (fun h1 => ?_)
  · replace hf := ob_t h1 hf
    refine G_iconst 0 dX7_isOrder_19 (by decide) ?_
    obtain rfl := os hf
    exact G_zreturn dX7_isOrder_20 rfl z_0
  · replace hf := ob_f h1 hf
    refine G_iload_n dX7_isOrder_4 rfl rfl ?_
    refine G_iconst 1 dX7_isOrder_5 (by decide) ?_
    refine G_iconst 3 dX7_isOrder_6 (by decide) ?_
    refine G_aload_n dX7_isOrder_7 rfl rfl ?_
    refine G_get (v := .ref 1) F_X7_10 dX7_isOrder_8 rfl rfl ?_
    refine G_get (v := .int c_board_askers) F_X7_79 dX7_isOrder_11 rfl rfl ?_
    refine G_imul dX7_isOrder_14 ?_
    refine G_ishl dX7_isOrder_15 ?_
    refine G_icmp_lt 21 dX7_isOrder_16 (by decide) (fun h2 => ?_) (fun h2 => ?_)
    · replace hf := ob_t h2 hf
      refine G_iconst 0 dX7_isOrder_21 (by decide) ?_
      refine G_istore_n dX7_isOrder_22 rfl (ltb rfl) ?_
      change GG _ _ _ _ _ _ _ _ _ _ [some (.ref 0), some (.int a1), some (.int 0), none] _
      refine G_iconst 0 dX7_isOrder_23 (by decide) ?_
      refine G_istore_n dX7_isOrder_24 rfl (ltb rfl) ?_
      change GG _ _ _ _ _ _ _ _ _ _ [some (.ref 0), some (.int a1), some (.int 0), some (.int 0)] _
      exact g_X7_isOrder_25 N hf
    · replace hf := ob_f h2 hf
      refine G_iconst 0 dX7_isOrder_19 (by decide) ?_
      obtain rfl := os hf
      exact G_zreturn dX7_isOrder_20 rfl z_0
set_option maxRecDepth 20000 in
theorem dX7_fillTurn_0 : decode cX7_fillTurn 0 = .ok (.iconst (-1), 1) := by decide +kernel
set_option maxRecDepth 20000 in
theorem dX7_fillTurn_1 : decode cX7_fillTurn 1 = .ok (.istore_n 3, 1) := by decide +kernel
set_option maxRecDepth 20000 in
theorem dX7_fillTurn_2 : decode cX7_fillTurn 2 = .ok (.iload_n 3, 1) := by decide +kernel
set_option maxRecDepth 20000 in
theorem dX7_fillTurn_3 : decode cX7_fillTurn 3 = .ok (.aload_n 0, 1) := by decide +kernel
set_option maxRecDepth 20000 in
theorem dX7_fillTurn_4 : decode cX7_fillTurn 4 = .ok (.getfield 10, 3) := by decide +kernel
set_option maxRecDepth 20000 in
theorem dX7_fillTurn_7 : decode cX7_fillTurn 7 = .ok (.getfield 91, 3) := by decide +kernel
set_option maxRecDepth 20000 in
theorem dX7_fillTurn_10 : decode cX7_fillTurn 10 = .ok (.if_icmp .ge 51, 3) := by decide +kernel
set_option maxRecDepth 20000 in
theorem dX7_fillTurn_13 : decode cX7_fillTurn 13 = .ok (.aload_n 0, 1) := by decide +kernel
set_option maxRecDepth 20000 in
theorem dX7_fillTurn_14 : decode cX7_fillTurn 14 = .ok (.getfield 10, 3) := by decide +kernel
set_option maxRecDepth 20000 in
theorem dX7_fillTurn_17 : decode cX7_fillTurn 17 = .ok (.iload_n 1, 1) := by decide +kernel
set_option maxRecDepth 20000 in
theorem dX7_fillTurn_18 : decode cX7_fillTurn 18 = .ok (.iload_n 3, 1) := by decide +kernel
set_option maxRecDepth 20000 in
theorem dX7_fillTurn_19 : decode cX7_fillTurn 19 = .ok (.invokevirtual 118, 3) := by decide +kernel
set_option maxRecDepth 20000 in
theorem dX7_fillTurn_22 : decode cX7_fillTurn 22 = .ok (.iload_n 2, 1) := by decide +kernel
set_option maxRecDepth 20000 in
theorem dX7_fillTurn_23 : decode cX7_fillTurn 23 = .ok (.ishl, 1) := by decide +kernel
set_option maxRecDepth 20000 in
theorem dX7_fillTurn_24 : decode cX7_fillTurn 24 = .ok (.ineg, 1) := by decide +kernel
set_option maxRecDepth 20000 in
theorem dX7_fillTurn_25 : decode cX7_fillTurn 25 = .ok (.istore 4, 2) := by decide +kernel
set_option maxRecDepth 20000 in
theorem dX7_fillTurn_27 : decode cX7_fillTurn 27 = .ok (.aload_n 0, 1) := by decide +kernel
set_option maxRecDepth 20000 in
theorem dX7_fillTurn_28 : decode cX7_fillTurn 28 = .ok (.getfield 28, 3) := by decide +kernel
set_option maxRecDepth 20000 in
theorem dX7_fillTurn_31 : decode cX7_fillTurn 31 = .ok (.iload_n 1, 1) := by decide +kernel
set_option maxRecDepth 20000 in
theorem dX7_fillTurn_32 : decode cX7_fillTurn 32 = .ok (.iload_n 3, 1) := by decide +kernel
set_option maxRecDepth 20000 in
theorem dX7_fillTurn_33 : decode cX7_fillTurn 33 = .ok (.aload_n 0, 1) := by decide +kernel
set_option maxRecDepth 20000 in
theorem dX7_fillTurn_34 : decode cX7_fillTurn 34 = .ok (.getfield 10, 3) := by decide +kernel
set_option maxRecDepth 20000 in
theorem dX7_fillTurn_37 : decode cX7_fillTurn 37 = .ok (.iload_n 1, 1) := by decide +kernel
set_option maxRecDepth 20000 in
theorem dX7_fillTurn_38 : decode cX7_fillTurn 38 = .ok (.iload_n 3, 1) := by decide +kernel
set_option maxRecDepth 20000 in
theorem dX7_fillTurn_39 : decode cX7_fillTurn 39 = .ok (.invokevirtual 292, 3) := by decide +kernel
set_option maxRecDepth 20000 in
theorem dX7_fillTurn_42 : decode cX7_fillTurn 42 = .ok (.ifCond .eq 8, 3) := by decide +kernel
set_option maxRecDepth 20000 in
theorem dX7_fillTurn_45 : decode cX7_fillTurn 45 = .ok (.iload 4, 2) := by decide +kernel
set_option maxRecDepth 20000 in
theorem dX7_fillTurn_47 : decode cX7_fillTurn 47 = .ok (.goto 5, 3) := by decide +kernel
set_option maxRecDepth 20000 in
theorem dX7_fillTurn_50 : decode cX7_fillTurn 50 = .ok (.ldc 193, 2) := by decide +kernel
set_option maxRecDepth 20000 in
theorem dX7_fillTurn_52 : decode cX7_fillTurn 52 = .ok (.invokevirtual 296, 3) := by decide +kernel
set_option maxRecDepth 20000 in
theorem dX7_fillTurn_55 : decode cX7_fillTurn 55 = .ok (.iinc 3 1, 3) := by decide +kernel
set_option maxRecDepth 20000 in
theorem dX7_fillTurn_58 : decode cX7_fillTurn 58 = .ok (.goto (-56), 3) := by decide +kernel
set_option maxRecDepth 20000 in
theorem dX7_fillTurn_61 : decode cX7_fillTurn 61 = .ok (.return_, 1) := by decide +kernel
def f_X7_fillTurn_52 (N : Nat) (c_board_places : Int32) (c_board_wishes : Nat → Int32) (k2 : (Nat → Int32) → Int32 → Int32 → Int32 → Option ((Nat → Int32))) (c_aimed_gains : Nat → Int32) (v1 : Int32) (v2 : Int32) (v3 : Int32) (s1 : Int32) (s2 : Int32) (s3 : Int32) : Option ((Nat → Int32)) :=
    (f_X4_setGain N c_aimed_gains s1 s2 s3).bind fun o1 =>
    k2 o1 v1 v2 (v3 + 1)
set_option maxHeartbeats 4000000 in
set_option maxRecDepth 100000 in
theorem g_X7_fillTurn_52 {κ : KC} {ω : KW} {A : Nat → Prop} {ad : Nat → Nat} {u_above : Int64} {u_below : Int64} {u_aimed_askers : Int32} {u_aimed_places : Int32} {u_aimed_seatBits : Int32} {u_aimed_entries : Int32} {u_board_askers : Int32} {u_board_age : Int32} {N : Nat} {c_board_places : Int32} {c_board_wishes : Nat → Int32}  {k2 : (Nat → Int32) → Int32 → Int32 → Int32 → Option ((Nat → Int32))} {res : (Nat → Int32)} (hk2 : ∀ {c_aimed_gains : Nat → Int32} {v1 : Int32} {v2 : Int32} {v3 : Int32}, k2 c_aimed_gains v1 v2 v3 = some res → GG mu_X7_fillTurn κ ω A (QR κ ω A ad (none) (w_X7_fillTurn c_board_places res c_board_wishes u_above u_below u_aimed_askers u_aimed_places u_aimed_seatBits u_aimed_entries u_board_askers u_board_age)) ad 0 0 2 (w_X7_fillTurn c_board_places c_aimed_gains c_board_wishes u_above u_below u_aimed_askers u_aimed_places u_aimed_seatBits u_aimed_entries u_board_askers u_board_age) [some (.ref 0), some (.int v1), some (.int v2), some (.int v3), none] []) {c_aimed_gains : Nat → Int32} {v1 : Int32} {v2 : Int32} {v3 : Int32} {s1 : Int32} {s2 : Int32} {s3 : Int32} (hf : f_X7_fillTurn_52 N c_board_places c_board_wishes k2 c_aimed_gains v1 v2 v3 s1 s2 s3 = some res) : GG mu_X7_fillTurn κ ω A (QR κ ω A ad (none) (w_X7_fillTurn c_board_places res c_board_wishes u_above u_below u_aimed_askers u_aimed_places u_aimed_seatBits u_aimed_entries u_board_askers u_board_age)) ad 0 0 52 (w_X7_fillTurn c_board_places c_aimed_gains c_board_wishes u_above u_below u_aimed_askers u_aimed_places u_aimed_seatBits u_aimed_entries u_board_askers u_board_age) [some (.ref 0), some (.int v1), some (.int v2), some (.int v3), none] [.int s3, .int s2, .int s1, .ref 1] := by
  obtain ⟨o1, hc2, hf⟩ := ob hf
  refine G_callV (μ2 := mu_X4_setGain) (As := [.int s1, .int s2, .int s3]) (w2 := (w_X7_fillTurn c_board_places o1 c_board_wishes u_above u_below u_aimed_askers u_aimed_places u_aimed_seatBits u_aimed_entries u_board_askers u_board_age)) (wc := (w_X4_setGain c_aimed_gains u_aimed_askers u_aimed_places u_aimed_seatBits u_aimed_entries)) (wc2 := (w_X4_setGain o1 u_aimed_askers u_aimed_places u_aimed_seatBits u_aimed_entries)) (rest := []) (rv := []) [1, 3] [2, 1008, 1009, 1010, 1011, 1012, 1013, 1014, 1015, 1016, 1017] [0, 2, 4] [0, 3, 1, 4, 2] (c_X4_setGain hc2) cw_X4_setGain m_X7_296 dX7_fillTurn_52 rfl ⟨leb rfl, leb rfl⟩ ⟨rfl, rfl⟩ rfl ⟨_, rfl, rfl⟩ (Fit.mk rfl rfl rfl) rfl (leb rfl) (ROsub.nil rfl rfl) rfl ?_
  change GG _ _ _ _ _ _ _ _ _ (w_X7_fillTurn c_board_places o1 c_board_wishes u_above u_below u_aimed_askers u_aimed_places u_aimed_seatBits u_aimed_entries u_board_askers u_board_age) [some (.ref 0), some (.int v1), some (.int v2), some (.int v3), none] []
  refine G_iinc 1 dX7_fillTurn_55 (by decide) rfl (ltb rfl) ?_
  change GG _ _ _ _ _ _ _ _ _ _ [some (.ref 0), some (.int v1), some (.int v2), some (.int (v3 + 1)), none] _
  refine G_goto 2 dX7_fillTurn_58 (by decide) ?_
  exact hk2 hf
def f_X7_fillTurn_2 (N : Nat) (c_board_places : Int32) (c_board_wishes : Nat → Int32) : Nat → (Nat → Int32) → Int32 → Int32 → Int32 → Option ((Nat → Int32))
  | 0, _, _, _, _ => none
  | n + 1, c_aimed_gains, v1, v2, v3 =>
    (if c_board_places ≤ v3 then
      some c_aimed_gains
    else
      (f_X0_worthOf N c_board_wishes v1 v3).bind fun r2 =>
      (f_X0_isOpen N c_board_wishes v1 v3).bind fun r4 =>
      (if r4 = 0 then
        f_X7_fillTurn_52 N c_board_places c_board_wishes (f_X7_fillTurn_2 N c_board_places c_board_wishes n) c_aimed_gains v1 v2 v3 v1 v3 (-2000000000 : Int32)
      else
        f_X7_fillTurn_52 N c_board_places c_board_wishes (f_X7_fillTurn_2 N c_board_places c_board_wishes n) c_aimed_gains v1 v2 v3 v1 v3 (-(r2 <<< (v2 &&& 31)))))
set_option maxHeartbeats 4000000 in
set_option maxRecDepth 100000 in
theorem g_X7_fillTurn_2 {κ : KC} {ω : KW} {A : Nat → Prop} {ad : Nat → Nat} {u_above : Int64} {u_below : Int64} {u_aimed_askers : Int32} {u_aimed_places : Int32} {u_aimed_seatBits : Int32} {u_aimed_entries : Int32} {u_board_askers : Int32} {u_board_age : Int32} {N : Nat} {c_board_places : Int32} {c_board_wishes : Nat → Int32}  {res : (Nat → Int32)} : ∀ (n : Nat) {c_aimed_gains : Nat → Int32} {v1 : Int32} {v2 : Int32} {v3 : Int32}, f_X7_fillTurn_2 N c_board_places c_board_wishes n c_aimed_gains v1 v2 v3 = some res → GG mu_X7_fillTurn κ ω A (QR κ ω A ad (none) (w_X7_fillTurn c_board_places res c_board_wishes u_above u_below u_aimed_askers u_aimed_places u_aimed_seatBits u_aimed_entries u_board_askers u_board_age)) ad 0 0 2 (w_X7_fillTurn c_board_places c_aimed_gains c_board_wishes u_above u_below u_aimed_askers u_aimed_places u_aimed_seatBits u_aimed_entries u_board_askers u_board_age) [some (.ref 0), some (.int v1), some (.int v2), some (.int v3), none] [] := by
  intro n
  induction n with
  | zero => intro c_aimed_gains v1 v2 v3 hf; exact ob_0 hf
  | succ n ih =>
    intro c_aimed_gains v1 v2 v3 hf
    refine G_iload_n dX7_fillTurn_2 rfl rfl ?_
    refine G_aload_n dX7_fillTurn_3 rfl rfl ?_
    refine G_get (v := .ref 2) F_X7_10 dX7_fillTurn_4 rfl rfl ?_
    refine G_get (v := .int c_board_places) F_X7_91 dX7_fillTurn_7 rfl rfl ?_
    refine G_icmp_ge 61 dX7_fillTurn_10 (by decide) (fun h1 => ?_) (fun h1 => ?_)
    · replace hf := ob_t h1 hf
      obtain rfl := os hf
      exact G_return dX7_fillTurn_61 rfl
    · replace hf := ob_f h1 hf
      refine G_aload_n dX7_fillTurn_13 rfl rfl ?_
      refine G_get (v := .ref 2) F_X7_10 dX7_fillTurn_14 rfl rfl ?_
      refine G_iload_n dX7_fillTurn_17 rfl rfl ?_
      refine G_iload_n dX7_fillTurn_18 rfl rfl ?_
      obtain ⟨r2, hc3, hf⟩ := ob hf
      refine G_callV (μ2 := mu_X0_worthOf) (As := [.int v1, .int v3]) (w2 := (w_X7_fillTurn c_board_places c_aimed_gains c_board_wishes u_above u_below u_aimed_askers u_aimed_places u_aimed_seatBits u_aimed_entries u_board_askers u_board_age)) (wc := (w_X0_worthOf c_board_wishes u_board_askers c_board_places u_board_age)) (wc2 := (w_X0_worthOf c_board_wishes u_board_askers c_board_places u_board_age)) (rest := []) (rv := [.int r2]) [2, 4] [1018, 1019, 1020] [0, 1, 3] [0, 1, 3, 2, 4] (c_X0_worthOf hc3) cw_X0_worthOf m_X7_118 dX7_fillTurn_19 rfl ⟨leb rfl, leb rfl⟩ ⟨rfl, rfl⟩ rfl ⟨_, rfl, rfl⟩ (Fit.mk rfl rfl rfl) rfl (leb rfl) (ROsub.nil rfl rfl) rfl ?_
      change GG _ _ _ _ _ _ _ _ _ (w_X7_fillTurn c_board_places c_aimed_gains c_board_wishes u_above u_below u_aimed_askers u_aimed_places u_aimed_seatBits u_aimed_entries u_board_askers u_board_age) [some (.ref 0), some (.int v1), some (.int v2), some (.int v3), none] [.int r2]
      refine G_iload_n dX7_fillTurn_22 rfl rfl ?_
      refine G_ishl dX7_fillTurn_23 ?_
      refine G_ineg dX7_fillTurn_24 ?_
      refine G_istore dX7_fillTurn_25 (ltb rfl) ?_
      change GG _ _ _ _ _ _ _ _ _ _ [some (.ref 0), some (.int v1), some (.int v2), some (.int v3), some (.int (-(r2 <<< (v2 &&& 31))))] _
      refine G_aload_n dX7_fillTurn_27 rfl rfl ?_
      refine G_get (v := .ref 1) F_X7_28 dX7_fillTurn_28 rfl rfl ?_
      refine G_iload_n dX7_fillTurn_31 rfl rfl ?_
      refine G_iload_n dX7_fillTurn_32 rfl rfl ?_
      refine G_aload_n dX7_fillTurn_33 rfl rfl ?_
      refine G_get (v := .ref 2) F_X7_10 dX7_fillTurn_34 rfl rfl ?_
      refine G_iload_n dX7_fillTurn_37 rfl rfl ?_
      refine G_iload_n dX7_fillTurn_38 rfl rfl ?_
      obtain ⟨r4, hc5, hf⟩ := ob hf
      refine G_callV (μ2 := mu_X0_isOpen) (As := [.int v1, .int v3]) (w2 := (w_X7_fillTurn c_board_places c_aimed_gains c_board_wishes u_above u_below u_aimed_askers u_aimed_places u_aimed_seatBits u_aimed_entries u_board_askers u_board_age)) (wc := (w_X0_isOpen c_board_wishes u_board_askers c_board_places u_board_age)) (wc2 := (w_X0_isOpen c_board_wishes u_board_askers c_board_places u_board_age)) (rest := [.int v3, .int v1, .ref 1]) (rv := [.int r4]) [2, 4] [1018, 1019, 1020] [0, 1, 3] [0, 1, 3, 2, 4] (c_X0_isOpen hc5) cw_X0_isOpen m_X7_292 dX7_fillTurn_39 rfl ⟨leb rfl, leb rfl⟩ ⟨rfl, rfl⟩ rfl ⟨_, rfl, rfl⟩ (Fit.mk rfl rfl rfl) rfl (leb rfl) (ROsub.nil rfl rfl) rfl ?_
      change GG _ _ _ _ _ _ _ _ _ (w_X7_fillTurn c_board_places c_aimed_gains c_board_wishes u_above u_below u_aimed_askers u_aimed_places u_aimed_seatBits u_aimed_entries u_board_askers u_board_age) [some (.ref 0), some (.int v1), some (.int v2), some (.int v3), some (.int (-(r2 <<< (v2 &&& 31))))] [.int r4, .int v3, .int v1, .ref 1]
      refine G_if_eq 50 dX7_fillTurn_42 (by decide) (fun h6 => ?_) (fun h6 => ?_)
      · replace hf := ob_t h6 hf
        refine G_ldc (v := (-2000000000 : Int32)) dX7_fillTurn_50 k_X7_193 ?_
        refine GG.sb (lv2 := [some (.ref 0), some (.int v1), some (.int v2), some (.int v3), none]) ?_ (lvS_v rfl (lvS_v rfl (lvS_v rfl (lvS_v rfl (lvS_n (lvS_e))))))
        exact g_X7_fillTurn_52 ih hf
      · replace hf := ob_f h6 hf
        refine G_iload dX7_fillTurn_45 rfl ?_
        refine G_goto 52 dX7_fillTurn_47 (by decide) ?_
        refine GG.sb (lv2 := [some (.ref 0), some (.int v1), some (.int v2), some (.int v3), none]) ?_ (lvS_v rfl (lvS_v rfl (lvS_v rfl (lvS_v rfl (lvS_n (lvS_e))))))
        exact g_X7_fillTurn_52 ih hf
def f_X7_fillTurn (N : Nat) (c_board_places : Int32) (c_board_wishes : Nat → Int32) (c_aimed_gains : Nat → Int32) (a1 : Int32) (a2 : Int32) : Option ((Nat → Int32)) :=
  f_X7_fillTurn_2 N c_board_places c_board_wishes N c_aimed_gains a1 a2 (-1 : Int32)
set_option maxHeartbeats 4000000 in
set_option maxRecDepth 100000 in
theorem c_X7_fillTurn {N : Nat} {c_board_places : Int32} {c_board_wishes : Nat → Int32} {c_aimed_gains : Nat → Int32} {u_above : Int64} {u_below : Int64} {u_aimed_askers : Int32} {u_aimed_places : Int32} {u_aimed_seatBits : Int32} {u_aimed_entries : Int32} {u_board_askers : Int32} {u_board_age : Int32} {a1 : Int32} {a2 : Int32} {res : (Nat → Int32)} (hf : f_X7_fillTurn N c_board_places c_board_wishes c_aimed_gains a1 a2 = some res) : Con mu_X7_fillTurn [.ref 0, .int a1, .int a2] (w_X7_fillTurn c_board_places c_aimed_gains c_board_wishes u_above u_below u_aimed_askers u_aimed_places u_aimed_seatBits u_aimed_entries u_board_askers u_board_age) (none) (w_X7_fillTurn c_board_places res c_board_wishes u_above u_below u_aimed_askers u_aimed_places u_aimed_seatBits u_aimed_entries u_board_askers u_board_age) := by
  refine Con.mk (show plainName RX7 = true by decide +kernel) (leb rfl) (fun κ ω A ad => ?_)
  change GG mu_X7_fillTurn κ ω A (QR κ ω A ad (none) (w_X7_fillTurn c_board_places res c_board_wishes u_above u_below u_aimed_askers u_aimed_places u_aimed_seatBits u_aimed_entries u_board_askers u_board_age)) ad 0 0 0 (w_X7_fillTurn c_board_places c_aimed_gains c_board_wishes u_above u_below u_aimed_askers u_aimed_places u_aimed_seatBits u_aimed_entries u_board_askers u_board_age) [some (.ref 0), some (.int a1), some (.int a2), none, none] []
  refine G_iconst (-1 : Int32) dX7_fillTurn_0 (by decide) ?_
  refine G_istore_n dX7_fillTurn_1 rfl (ltb rfl) ?_
  change GG _ _ _ _ _ _ _ _ _ _ [some (.ref 0), some (.int a1), some (.int a2), some (.int (-1 : Int32)), none] _
  exact g_X7_fillTurn_2 N hf
set_option maxRecDepth 20000 in
theorem dX7_turn_0 : decode cX7_turn 0 = .ok (.aload_n 0, 1) := by decide +kernel
set_option maxRecDepth 20000 in
theorem dX7_turn_1 : decode cX7_turn 1 = .ok (.getfield 10, 3) := by decide +kernel
set_option maxRecDepth 20000 in
theorem dX7_turn_4 : decode cX7_turn 4 = .ok (.iload_n 2, 1) := by decide +kernel
set_option maxRecDepth 20000 in
theorem dX7_turn_5 : decode cX7_turn 5 = .ok (.invokevirtual 109, 3) := by decide +kernel
set_option maxRecDepth 20000 in
theorem dX7_turn_8 : decode cX7_turn 8 = .ok (.ifCond .eq 11, 3) := by decide +kernel
set_option maxRecDepth 20000 in
theorem dX7_turn_11 : decode cX7_turn 11 = .ok (.aload_n 0, 1) := by decide +kernel
set_option maxRecDepth 20000 in
theorem dX7_turn_12 : decode cX7_turn 12 = .ok (.iload_n 1, 1) := by decide +kernel
set_option maxRecDepth 20000 in
theorem dX7_turn_13 : decode cX7_turn 13 = .ok (.invokevirtual 210, 3) := by decide +kernel
set_option maxRecDepth 20000 in
theorem dX7_turn_16 : decode cX7_turn 16 = .ok (.ifCond .ne 6, 3) := by decide +kernel
set_option maxRecDepth 20000 in
theorem dX7_turn_19 : decode cX7_turn 19 = .ok (.bipush (-2), 2) := by decide +kernel
set_option maxRecDepth 20000 in
theorem dX7_turn_21 : decode cX7_turn 21 = .ok (.ireturn, 1) := by decide +kernel
set_option maxRecDepth 20000 in
theorem dX7_turn_22 : decode cX7_turn 22 = .ok (.iconst 0, 1) := by decide +kernel
set_option maxRecDepth 20000 in
theorem dX7_turn_23 : decode cX7_turn 23 = .ok (.istore_n 3, 1) := by decide +kernel
set_option maxRecDepth 20000 in
theorem dX7_turn_24 : decode cX7_turn 24 = .ok (.iload_n 3, 1) := by decide +kernel
set_option maxRecDepth 20000 in
theorem dX7_turn_25 : decode cX7_turn 25 = .ok (.aload_n 0, 1) := by decide +kernel
set_option maxRecDepth 20000 in
theorem dX7_turn_26 : decode cX7_turn 26 = .ok (.getfield 10, 3) := by decide +kernel
set_option maxRecDepth 20000 in
theorem dX7_turn_29 : decode cX7_turn 29 = .ok (.getfield 79, 3) := by decide +kernel
set_option maxRecDepth 20000 in
theorem dX7_turn_32 : decode cX7_turn 32 = .ok (.if_icmp .ge 28, 3) := by decide +kernel
set_option maxRecDepth 20000 in
theorem dX7_turn_35 : decode cX7_turn 35 = .ok (.iload_n 1, 1) := by decide +kernel
set_option maxRecDepth 20000 in
theorem dX7_turn_36 : decode cX7_turn 36 = .ok (.iconst 3, 1) := by decide +kernel
set_option maxRecDepth 20000 in
theorem dX7_turn_37 : decode cX7_turn 37 = .ok (.iload_n 3, 1) := by decide +kernel
set_option maxRecDepth 20000 in
theorem dX7_turn_38 : decode cX7_turn 38 = .ok (.imul, 1) := by decide +kernel
set_option maxRecDepth 20000 in
theorem dX7_turn_39 : decode cX7_turn 39 = .ok (.ishr, 1) := by decide +kernel
set_option maxRecDepth 20000 in
theorem dX7_turn_40 : decode cX7_turn 40 = .ok (.bipush 7, 2) := by decide +kernel
set_option maxRecDepth 20000 in
theorem dX7_turn_42 : decode cX7_turn 42 = .ok (.iand, 1) := by decide +kernel
set_option maxRecDepth 20000 in
theorem dX7_turn_43 : decode cX7_turn 43 = .ok (.istore 4, 2) := by decide +kernel
set_option maxRecDepth 20000 in
theorem dX7_turn_45 : decode cX7_turn 45 = .ok (.aload_n 0, 1) := by decide +kernel
set_option maxRecDepth 20000 in
theorem dX7_turn_46 : decode cX7_turn 46 = .ok (.iload 4, 2) := by decide +kernel
set_option maxRecDepth 20000 in
theorem dX7_turn_48 : decode cX7_turn 48 = .ok (.iconst 3, 1) := by decide +kernel
set_option maxRecDepth 20000 in
theorem dX7_turn_49 : decode cX7_turn 49 = .ok (.iload_n 3, 1) := by decide +kernel
set_option maxRecDepth 20000 in
theorem dX7_turn_50 : decode cX7_turn 50 = .ok (.imul, 1) := by decide +kernel
set_option maxRecDepth 20000 in
theorem dX7_turn_51 : decode cX7_turn 51 = .ok (.invokevirtual 213, 3) := by decide +kernel
set_option maxRecDepth 20000 in
theorem dX7_turn_54 : decode cX7_turn 54 = .ok (.iinc 3 1, 3) := by decide +kernel
set_option maxRecDepth 20000 in
theorem dX7_turn_57 : decode cX7_turn 57 = .ok (.goto (-33), 3) := by decide +kernel
set_option maxRecDepth 20000 in
theorem dX7_turn_60 : decode cX7_turn 60 = .ok (.aload_n 0, 1) := by decide +kernel
set_option maxRecDepth 20000 in
theorem dX7_turn_61 : decode cX7_turn 61 = .ok (.getfield 28, 3) := by decide +kernel
set_option maxRecDepth 20000 in
theorem dX7_turn_64 : decode cX7_turn 64 = .ok (.invokevirtual 201, 3) := by decide +kernel
set_option maxRecDepth 20000 in
theorem dX7_turn_67 : decode cX7_turn 67 = .ok (.aload_n 0, 1) := by decide +kernel
set_option maxRecDepth 20000 in
theorem dX7_turn_68 : decode cX7_turn 68 = .ok (.getfield 28, 3) := by decide +kernel
set_option maxRecDepth 20000 in
theorem dX7_turn_71 : decode cX7_turn 71 = .ok (.iconst 0, 1) := by decide +kernel
set_option maxRecDepth 20000 in
theorem dX7_turn_72 : decode cX7_turn 72 = .ok (.aload_n 0, 1) := by decide +kernel
set_option maxRecDepth 20000 in
theorem dX7_turn_73 : decode cX7_turn 73 = .ok (.getfield 68, 3) := by decide +kernel
set_option maxRecDepth 20000 in
theorem dX7_turn_76 : decode cX7_turn 76 = .ok (.invokevirtual 131, 3) := by decide +kernel
set_option maxRecDepth 20000 in
theorem dX7_turn_79 : decode cX7_turn 79 = .ok (.aload_n 0, 1) := by decide +kernel
set_option maxRecDepth 20000 in
theorem dX7_turn_80 : decode cX7_turn 80 = .ok (.getfield 68, 3) := by decide +kernel
set_option maxRecDepth 20000 in
theorem dX7_turn_83 : decode cX7_turn 83 = .ok (.iload_n 2, 1) := by decide +kernel
set_option maxRecDepth 20000 in
theorem dX7_turn_84 : decode cX7_turn 84 = .ok (.iaload, 1) := by decide +kernel
set_option maxRecDepth 20000 in
theorem dX7_turn_85 : decode cX7_turn 85 = .ok (.ireturn, 1) := by decide +kernel
def f_X7_turn_24 (N : Nat) (c_board_askers : Int32) (c_board_places : Int32) (c_board_seats : Nat → Int32) (c_board_wishes : Nat → Int32) : Nat → Int32 → Int32 → Int32 → Int32 → (Nat → Int32) → (Nat → Int32) → (Nat → Int32) → (Nat → Int32) → (Nat → Int32) → (Nat → Int32) → (Nat → Int32) → (Nat → Int32) → (Nat → Int32) → (Nat → Int32) → (Nat → Int32) → (Nat → Int32) → Int32 → Int32 → Int32 → Option (Int32 × Int32 × Int32 × Int32 × Int32 × (Nat → Int32) × (Nat → Int32) × (Nat → Int32) × (Nat → Int32) × (Nat → Int32) × (Nat → Int32) × (Nat → Int32) × (Nat → Int32) × (Nat → Int32) × (Nat → Int32) × (Nat → Int32) × (Nat → Int32))
  | 0, _, _, _, _, _, _, _, _, _, _, _, _, _, _, _, _, _, _, _ => none
  | n + 1, c_aimed_askers, c_aimed_places, c_aimed_seatBits, c_aimed_entries, c_row, c_aimed_best, c_aimed_clipAll, c_aimed_clipToOne, c_aimed_clipToTwo, c_aimed_firstOf, c_aimed_gains, c_aimed_left, c_aimed_next, c_aimed_solvedGains, c_aimed_ways, c_all_slots, v1, v2, v3 =>
    (if c_board_askers ≤ v3 then
      (f_X4_solve N c_board_askers c_board_places c_aimed_gains c_board_seats c_aimed_askers c_aimed_places c_aimed_seatBits c_aimed_entries c_aimed_best c_aimed_clipAll c_aimed_clipToOne c_aimed_clipToTwo c_aimed_firstOf c_aimed_left c_aimed_next c_all_slots c_aimed_solvedGains c_aimed_ways).bind fun (o2, o3, o4, o5, o6, o7, o8, o9, o10, o11, o12, o13, o14, o15) =>
      (f_X4_pathTo N o2 o3 o6 o12 o14 o15 c_row 0).bind fun o17 =>
      (rdI 8 o17 v2).bind fun t19 =>
      some (t19, o2, o3, o4, o5, o17, o6, o7, o8, o9, o10, c_aimed_gains, o11, o12, o14, o15, o13)
    else
      (f_X7_fillTurn N c_board_places c_board_wishes c_aimed_gains ((v1 >>> ((3 * v3) &&& 31)) &&& (7 : Int32)) (3 * v3)).bind fun o20 =>
      f_X7_turn_24 N c_board_askers c_board_places c_board_seats c_board_wishes n c_aimed_askers c_aimed_places c_aimed_seatBits c_aimed_entries c_row c_aimed_best c_aimed_clipAll c_aimed_clipToOne c_aimed_clipToTwo c_aimed_firstOf o20 c_aimed_left c_aimed_next c_aimed_solvedGains c_aimed_ways c_all_slots v1 v2 (v3 + 1))
set_option maxHeartbeats 4000000 in
set_option maxRecDepth 100000 in
theorem g_X7_turn_24 {κ : KC} {ω : KW} {A : Nat → Prop} {ad : Nat → Nat} {u_above : Int64} {u_below : Int64} {u_board_age : Int32} {N : Nat} {c_board_askers : Int32} {c_board_places : Int32} {c_board_seats : Nat → Int32} {c_board_wishes : Nat → Int32}  {res : Int32 × Int32 × Int32 × Int32 × Int32 × (Nat → Int32) × (Nat → Int32) × (Nat → Int32) × (Nat → Int32) × (Nat → Int32) × (Nat → Int32) × (Nat → Int32) × (Nat → Int32) × (Nat → Int32) × (Nat → Int32) × (Nat → Int32) × (Nat → Int32)} : ∀ (n : Nat) {c_aimed_askers : Int32} {c_aimed_places : Int32} {c_aimed_seatBits : Int32} {c_aimed_entries : Int32} {c_row : Nat → Int32} {c_aimed_best : Nat → Int32} {c_aimed_clipAll : Nat → Int32} {c_aimed_clipToOne : Nat → Int32} {c_aimed_clipToTwo : Nat → Int32} {c_aimed_firstOf : Nat → Int32} {c_aimed_gains : Nat → Int32} {c_aimed_left : Nat → Int32} {c_aimed_next : Nat → Int32} {c_aimed_solvedGains : Nat → Int32} {c_aimed_ways : Nat → Int32} {c_all_slots : Nat → Int32} {v1 : Int32} {v2 : Int32} {v3 : Int32}, f_X7_turn_24 N c_board_askers c_board_places c_board_seats c_board_wishes n c_aimed_askers c_aimed_places c_aimed_seatBits c_aimed_entries c_row c_aimed_best c_aimed_clipAll c_aimed_clipToOne c_aimed_clipToTwo c_aimed_firstOf c_aimed_gains c_aimed_left c_aimed_next c_aimed_solvedGains c_aimed_ways c_all_slots v1 v2 v3 = some res → GG mu_X7_turn κ ω A (QR κ ω A ad (some (.int res.1)) (w_X7_turn res.2.1 res.2.2.1 res.2.2.2.1 res.2.2.2.2.1 c_board_askers c_board_places res.2.2.2.2.2.1 res.2.2.2.2.2.2.1 res.2.2.2.2.2.2.2.1 res.2.2.2.2.2.2.2.2.1 res.2.2.2.2.2.2.2.2.2.1 res.2.2.2.2.2.2.2.2.2.2.1 res.2.2.2.2.2.2.2.2.2.2.2.1 res.2.2.2.2.2.2.2.2.2.2.2.2.1 res.2.2.2.2.2.2.2.2.2.2.2.2.2.1 res.2.2.2.2.2.2.2.2.2.2.2.2.2.2.1 res.2.2.2.2.2.2.2.2.2.2.2.2.2.2.2.1 res.2.2.2.2.2.2.2.2.2.2.2.2.2.2.2.2 c_board_seats c_board_wishes u_above u_below u_board_age)) ad 0 0 24 (w_X7_turn c_aimed_askers c_aimed_places c_aimed_seatBits c_aimed_entries c_board_askers c_board_places c_row c_aimed_best c_aimed_clipAll c_aimed_clipToOne c_aimed_clipToTwo c_aimed_firstOf c_aimed_gains c_aimed_left c_aimed_next c_aimed_solvedGains c_aimed_ways c_all_slots c_board_seats c_board_wishes u_above u_below u_board_age) [some (.ref 0), some (.int v1), some (.int v2), some (.int v3), none] [] := by
  intro n
  induction n with
  | zero => intro c_aimed_askers c_aimed_places c_aimed_seatBits c_aimed_entries c_row c_aimed_best c_aimed_clipAll c_aimed_clipToOne c_aimed_clipToTwo c_aimed_firstOf c_aimed_gains c_aimed_left c_aimed_next c_aimed_solvedGains c_aimed_ways c_all_slots v1 v2 v3 hf; exact ob_0 hf
  | succ n ih =>
    intro c_aimed_askers c_aimed_places c_aimed_seatBits c_aimed_entries c_row c_aimed_best c_aimed_clipAll c_aimed_clipToOne c_aimed_clipToTwo c_aimed_firstOf c_aimed_gains c_aimed_left c_aimed_next c_aimed_solvedGains c_aimed_ways c_all_slots v1 v2 v3 hf
    refine G_iload_n dX7_turn_24 rfl rfl ?_
    refine G_aload_n dX7_turn_25 rfl rfl ?_
    refine G_get (v := .ref 2) F_X7_10 dX7_turn_26 rfl rfl ?_
    refine G_get (v := .int c_board_askers) F_X7_79 dX7_turn_29 rfl rfl ?_
    refine G_icmp_ge 60 dX7_turn_32 (by decide) (fun h1 => ?_) (fun h1 => ?_)
    · replace hf := ob_t h1 hf
      refine G_aload_n dX7_turn_60 rfl rfl ?_
      refine G_get (v := .ref 1) F_X7_28 dX7_turn_61 rfl rfl ?_
      obtain ⟨⟨o2, o3, o4, o5, o6, o7, o8, o9, o10, o11, o12, o13, o14, o15⟩, hc16, hf⟩ := ob hf
      refine G_callV (μ2 := mu_X4_solve) (As := []) (w2 := (w_X7_turn o2 o3 o4 o5 c_board_askers c_board_places c_row o6 o7 o8 o9 o10 c_aimed_gains o11 o12 o14 o15 o13 c_board_seats c_board_wishes u_above u_below u_board_age)) (wc := (w_X4_solve c_aimed_askers c_aimed_places c_aimed_seatBits c_aimed_entries c_aimed_best c_board_askers c_board_places c_aimed_clipAll c_aimed_clipToOne c_aimed_clipToTwo c_aimed_firstOf c_aimed_gains c_aimed_left c_aimed_next c_all_slots c_aimed_solvedGains c_aimed_ways c_board_seats u_board_age)) (wc2 := (w_X4_solve o2 o3 o4 o5 o6 c_board_askers c_board_places o7 o8 o9 o10 c_aimed_gains o11 o12 o13 o14 o15 c_board_seats u_board_age)) (rest := []) (rv := []) [1, 4, 2, 5, 6, 7, 8, 9, 10, 11, 14, 12, 13, 15] [16, 1007, 1008] [0, 3, 16] [0, 3, 5, 1, 4, 6, 7, 8, 9, 10, 11, 12, 14, 15, 13, 16, 2] (c_X4_solve hc16) cw_X4_solve m_X7_201 dX7_turn_64 rfl ⟨leb rfl, leb rfl⟩ ⟨rfl, rfl⟩ rfl ⟨_, rfl, rfl⟩ (Fit.mk rfl rfl rfl) rfl (leb rfl) (ROsub.nil rfl rfl) rfl ?_
      change GG _ _ _ _ _ _ _ _ _ (w_X7_turn o2 o3 o4 o5 c_board_askers c_board_places c_row o6 o7 o8 o9 o10 c_aimed_gains o11 o12 o14 o15 o13 c_board_seats c_board_wishes u_above u_below u_board_age) [some (.ref 0), some (.int v1), some (.int v2), some (.int v3), none] []
      refine G_aload_n dX7_turn_67 rfl rfl ?_
      refine G_get (v := .ref 1) F_X7_28 dX7_turn_68 rfl rfl ?_
      refine G_iconst 0 dX7_turn_71 (by decide) ?_
      refine G_aload_n dX7_turn_72 rfl rfl ?_
      refine G_get (v := .ref 3) F_X7_68 dX7_turn_73 rfl rfl ?_
      obtain ⟨o17, hc18, hf⟩ := ob hf
      refine G_callV (μ2 := mu_X4_pathTo) (As := [.int 0, .ref 1]) (w2 := (w_X7_turn o2 o3 o4 o5 c_board_askers c_board_places o17 o6 o7 o8 o9 o10 c_aimed_gains o11 o12 o14 o15 o13 c_board_seats c_board_wishes u_above u_below u_board_age)) (wc := (w_X4_pathTo o2 o3 c_row o6 o12 o14 o15 o4 o5)) (wc2 := (w_X4_pathTo o2 o3 o17 o6 o12 o14 o15 o4 o5)) (rest := []) (rv := []) [1, 3, 4, 11, 12, 13] [2, 9, 10, 8, 14, 5, 6, 7] [0, 2, 5, 6, 7, 8, 9, 10, 14, 15, 16] [0, 11, 1, 12, 13, 2, 3, 4, 5, 6, 7, 14, 15, 16, 8, 9, 10] (c_X4_pathTo hc18) cw_X4_pathTo m_X7_131 dX7_turn_76 rfl ⟨leb rfl, leb rfl⟩ ⟨rfl, rfl⟩ rfl ⟨_, rfl, rfl⟩ (Fit.mk rfl rfl rfl) rfl (leb rfl) (ROsub.nil rfl rfl) rfl ?_
      change GG _ _ _ _ _ _ _ _ _ (w_X7_turn o2 o3 o4 o5 c_board_askers c_board_places o17 o6 o7 o8 o9 o10 c_aimed_gains o11 o12 o14 o15 o13 c_board_seats c_board_wishes u_above u_below u_board_age) [some (.ref 0), some (.int v1), some (.int v2), some (.int v3), none] []
      refine G_aload_n dX7_turn_79 rfl rfl ?_
      refine G_get (v := .ref 3) F_X7_68 dX7_turn_80 rfl rfl ?_
      refine G_iload_n dX7_turn_83 rfl rfl ?_
      obtain ⟨t19, ht19, hf⟩ := ob hf
      refine G_iald dX7_turn_84 rfl ht19 ?_
      obtain rfl := os hf
      exact G_ireturn dX7_turn_85 rfl
    · replace hf := ob_f h1 hf
      refine G_iload_n dX7_turn_35 rfl rfl ?_
      refine G_iconst 3 dX7_turn_36 (by decide) ?_
      refine G_iload_n dX7_turn_37 rfl rfl ?_
      refine G_imul dX7_turn_38 ?_
      refine G_ishr dX7_turn_39 ?_
      refine G_bipush 7 dX7_turn_40 (by decide) ?_
      refine G_iand dX7_turn_42 ?_
      refine G_istore dX7_turn_43 (ltb rfl) ?_
      change GG _ _ _ _ _ _ _ _ _ _ [some (.ref 0), some (.int v1), some (.int v2), some (.int v3), some (.int ((v1 >>> ((3 * v3) &&& 31)) &&& (7 : Int32)))] _
      refine G_aload_n dX7_turn_45 rfl rfl ?_
      refine G_iload dX7_turn_46 rfl ?_
      refine G_iconst 3 dX7_turn_48 (by decide) ?_
      refine G_iload_n dX7_turn_49 rfl rfl ?_
      refine G_imul dX7_turn_50 ?_
      obtain ⟨o20, hc21, hf⟩ := ob hf
      refine G_callV (μ2 := mu_X7_fillTurn) (As := [.int ((v1 >>> ((3 * v3) &&& 31)) &&& (7 : Int32)), .int (3 * v3)]) (w2 := (w_X7_turn c_aimed_askers c_aimed_places c_aimed_seatBits c_aimed_entries c_board_askers c_board_places c_row c_aimed_best c_aimed_clipAll c_aimed_clipToOne c_aimed_clipToTwo c_aimed_firstOf o20 c_aimed_left c_aimed_next c_aimed_solvedGains c_aimed_ways c_all_slots c_board_seats c_board_wishes u_above u_below u_board_age)) (wc := (w_X7_fillTurn c_board_places c_aimed_gains c_board_wishes u_above u_below c_aimed_askers c_aimed_places c_aimed_seatBits c_aimed_entries c_board_askers u_board_age)) (wc2 := (w_X7_fillTurn c_board_places o20 c_board_wishes u_above u_below c_aimed_askers c_aimed_places c_aimed_seatBits c_aimed_entries c_board_askers u_board_age)) (rest := []) (rv := []) [0, 1, 2, 9, 16] [1000, 1001, 1002, 1003, 1004, 1005, 1006, 3, 12, 10, 4, 13, 11, 8, 14, 5, 6, 7, 15, 1007, 1008] [3, 4, 5, 6, 7, 8, 10, 11, 12, 13, 14, 15] [12, 13, 14, 0, 1, 2, 3, 4, 5, 15, 6, 7, 8, 9, 10, 11, 16] (c_X7_fillTurn hc21) cw_X7_fillTurn m_X7_213 dX7_turn_51 rfl ⟨leb rfl, leb rfl⟩ ⟨rfl, rfl⟩ rfl ⟨_, rfl, rfl⟩ (Fit.mk rfl rfl rfl) rfl (leb rfl) (ROsub.nil rfl rfl) rfl ?_
      change GG _ _ _ _ _ _ _ _ _ (w_X7_turn c_aimed_askers c_aimed_places c_aimed_seatBits c_aimed_entries c_board_askers c_board_places c_row c_aimed_best c_aimed_clipAll c_aimed_clipToOne c_aimed_clipToTwo c_aimed_firstOf o20 c_aimed_left c_aimed_next c_aimed_solvedGains c_aimed_ways c_all_slots c_board_seats c_board_wishes u_above u_below u_board_age) [some (.ref 0), some (.int v1), some (.int v2), some (.int v3), some (.int ((v1 >>> ((3 * v3) &&& 31)) &&& (7 : Int32)))] []
      refine G_iinc 1 dX7_turn_54 (by decide) rfl (ltb rfl) ?_
      change GG _ _ _ _ _ _ _ _ _ _ [some (.ref 0), some (.int v1), some (.int v2), some (.int (v3 + 1)), some (.int ((v1 >>> ((3 * v3) &&& 31)) &&& (7 : Int32)))] _
      refine G_goto 24 dX7_turn_57 (by decide) ?_
      refine GG.sb (lv2 := [some (.ref 0), some (.int v1), some (.int v2), some (.int (v3 + 1)), none]) ?_ (lvS_v rfl (lvS_v rfl (lvS_v rfl (lvS_v rfl (lvS_n (lvS_e))))))
      exact ih hf
def f_X7_turn (N : Nat) (c_board_askers : Int32) (c_board_places : Int32) (c_board_seats : Nat → Int32) (c_board_wishes : Nat → Int32) (c_aimed_askers : Int32) (c_aimed_places : Int32) (c_aimed_seatBits : Int32) (c_aimed_entries : Int32) (c_row : Nat → Int32) (c_aimed_best : Nat → Int32) (c_aimed_clipAll : Nat → Int32) (c_aimed_clipToOne : Nat → Int32) (c_aimed_clipToTwo : Nat → Int32) (c_aimed_firstOf : Nat → Int32) (c_aimed_gains : Nat → Int32) (c_aimed_left : Nat → Int32) (c_aimed_next : Nat → Int32) (c_aimed_solvedGains : Nat → Int32) (c_aimed_ways : Nat → Int32) (c_all_slots : Nat → Int32) (a1 : Int32) (a2 : Int32) : Option (Int32 × Int32 × Int32 × Int32 × Int32 × (Nat → Int32) × (Nat → Int32) × (Nat → Int32) × (Nat → Int32) × (Nat → Int32) × (Nat → Int32) × (Nat → Int32) × (Nat → Int32) × (Nat → Int32) × (Nat → Int32) × (Nat → Int32) × (Nat → Int32)) :=
  (f_X0_isAsker N c_board_askers a2).bind fun r1 =>
  (if r1 = 0 then
    some ((-2 : Int32), c_aimed_askers, c_aimed_places, c_aimed_seatBits, c_aimed_entries, c_row, c_aimed_best, c_aimed_clipAll, c_aimed_clipToOne, c_aimed_clipToTwo, c_aimed_firstOf, c_aimed_gains, c_aimed_left, c_aimed_next, c_aimed_solvedGains, c_aimed_ways, c_all_slots)
  else
    (f_X7_isOrder N c_board_askers a1).bind fun r4 =>
    (if r4 = 0 then
      some ((-2 : Int32), c_aimed_askers, c_aimed_places, c_aimed_seatBits, c_aimed_entries, c_row, c_aimed_best, c_aimed_clipAll, c_aimed_clipToOne, c_aimed_clipToTwo, c_aimed_firstOf, c_aimed_gains, c_aimed_left, c_aimed_next, c_aimed_solvedGains, c_aimed_ways, c_all_slots)
    else
      f_X7_turn_24 N c_board_askers c_board_places c_board_seats c_board_wishes N c_aimed_askers c_aimed_places c_aimed_seatBits c_aimed_entries c_row c_aimed_best c_aimed_clipAll c_aimed_clipToOne c_aimed_clipToTwo c_aimed_firstOf c_aimed_gains c_aimed_left c_aimed_next c_aimed_solvedGains c_aimed_ways c_all_slots a1 a2 0))
set_option maxHeartbeats 4000000 in
set_option maxRecDepth 100000 in
theorem c_X7_turn {N : Nat} {c_board_askers : Int32} {c_board_places : Int32} {c_board_seats : Nat → Int32} {c_board_wishes : Nat → Int32} {c_aimed_askers : Int32} {c_aimed_places : Int32} {c_aimed_seatBits : Int32} {c_aimed_entries : Int32} {c_row : Nat → Int32} {c_aimed_best : Nat → Int32} {c_aimed_clipAll : Nat → Int32} {c_aimed_clipToOne : Nat → Int32} {c_aimed_clipToTwo : Nat → Int32} {c_aimed_firstOf : Nat → Int32} {c_aimed_gains : Nat → Int32} {c_aimed_left : Nat → Int32} {c_aimed_next : Nat → Int32} {c_aimed_solvedGains : Nat → Int32} {c_aimed_ways : Nat → Int32} {c_all_slots : Nat → Int32} {u_above : Int64} {u_below : Int64} {u_board_age : Int32} {a1 : Int32} {a2 : Int32} {res : Int32 × Int32 × Int32 × Int32 × Int32 × (Nat → Int32) × (Nat → Int32) × (Nat → Int32) × (Nat → Int32) × (Nat → Int32) × (Nat → Int32) × (Nat → Int32) × (Nat → Int32) × (Nat → Int32) × (Nat → Int32) × (Nat → Int32) × (Nat → Int32)} (hf : f_X7_turn N c_board_askers c_board_places c_board_seats c_board_wishes c_aimed_askers c_aimed_places c_aimed_seatBits c_aimed_entries c_row c_aimed_best c_aimed_clipAll c_aimed_clipToOne c_aimed_clipToTwo c_aimed_firstOf c_aimed_gains c_aimed_left c_aimed_next c_aimed_solvedGains c_aimed_ways c_all_slots a1 a2 = some res) : Con mu_X7_turn [.ref 0, .int a1, .int a2] (w_X7_turn c_aimed_askers c_aimed_places c_aimed_seatBits c_aimed_entries c_board_askers c_board_places c_row c_aimed_best c_aimed_clipAll c_aimed_clipToOne c_aimed_clipToTwo c_aimed_firstOf c_aimed_gains c_aimed_left c_aimed_next c_aimed_solvedGains c_aimed_ways c_all_slots c_board_seats c_board_wishes u_above u_below u_board_age) (some (.int res.1)) (w_X7_turn res.2.1 res.2.2.1 res.2.2.2.1 res.2.2.2.2.1 c_board_askers c_board_places res.2.2.2.2.2.1 res.2.2.2.2.2.2.1 res.2.2.2.2.2.2.2.1 res.2.2.2.2.2.2.2.2.1 res.2.2.2.2.2.2.2.2.2.1 res.2.2.2.2.2.2.2.2.2.2.1 res.2.2.2.2.2.2.2.2.2.2.2.1 res.2.2.2.2.2.2.2.2.2.2.2.2.1 res.2.2.2.2.2.2.2.2.2.2.2.2.2.1 res.2.2.2.2.2.2.2.2.2.2.2.2.2.2.1 res.2.2.2.2.2.2.2.2.2.2.2.2.2.2.2.1 res.2.2.2.2.2.2.2.2.2.2.2.2.2.2.2.2 c_board_seats c_board_wishes u_above u_below u_board_age) := by
  refine Con.mk (show plainName RX7 = true by decide +kernel) (leb rfl) (fun κ ω A ad => ?_)
  change GG mu_X7_turn κ ω A (QR κ ω A ad (some (.int res.1)) (w_X7_turn res.2.1 res.2.2.1 res.2.2.2.1 res.2.2.2.2.1 c_board_askers c_board_places res.2.2.2.2.2.1 res.2.2.2.2.2.2.1 res.2.2.2.2.2.2.2.1 res.2.2.2.2.2.2.2.2.1 res.2.2.2.2.2.2.2.2.2.1 res.2.2.2.2.2.2.2.2.2.2.1 res.2.2.2.2.2.2.2.2.2.2.2.1 res.2.2.2.2.2.2.2.2.2.2.2.2.1 res.2.2.2.2.2.2.2.2.2.2.2.2.2.1 res.2.2.2.2.2.2.2.2.2.2.2.2.2.2.1 res.2.2.2.2.2.2.2.2.2.2.2.2.2.2.2.1 res.2.2.2.2.2.2.2.2.2.2.2.2.2.2.2.2 c_board_seats c_board_wishes u_above u_below u_board_age)) ad 0 0 0 (w_X7_turn c_aimed_askers c_aimed_places c_aimed_seatBits c_aimed_entries c_board_askers c_board_places c_row c_aimed_best c_aimed_clipAll c_aimed_clipToOne c_aimed_clipToTwo c_aimed_firstOf c_aimed_gains c_aimed_left c_aimed_next c_aimed_solvedGains c_aimed_ways c_all_slots c_board_seats c_board_wishes u_above u_below u_board_age) [some (.ref 0), some (.int a1), some (.int a2), none, none] []
  refine G_aload_n dX7_turn_0 rfl rfl ?_
  refine G_get (v := .ref 2) F_X7_10 dX7_turn_1 rfl rfl ?_
  refine G_iload_n dX7_turn_4 rfl rfl ?_
  obtain ⟨r1, hc2, hf⟩ := ob hf
  refine G_callV (μ2 := mu_X0_isAsker) (As := [.int a2]) (w2 := (w_X7_turn c_aimed_askers c_aimed_places c_aimed_seatBits c_aimed_entries c_board_askers c_board_places c_row c_aimed_best c_aimed_clipAll c_aimed_clipToOne c_aimed_clipToTwo c_aimed_firstOf c_aimed_gains c_aimed_left c_aimed_next c_aimed_solvedGains c_aimed_ways c_all_slots c_board_seats c_board_wishes u_above u_below u_board_age)) (wc := (w_X0_isAsker c_board_askers c_board_places u_board_age)) (wc2 := (w_X0_isAsker c_board_askers c_board_places u_board_age)) (rest := []) (rv := [.int r1]) [2] [15, 16, 1007, 1008] [0, 1, 3, 4, 5, 6, 7, 8, 9, 10, 11, 12, 13, 14, 15, 16] [0, 1, 16, 2, 3, 4, 5, 6, 7, 8, 9, 10, 11, 12, 13, 14, 15] (c_X0_isAsker hc2) cw_X0_isAsker m_X7_109 dX7_turn_5 rfl ⟨leb rfl, leb rfl⟩ ⟨rfl, rfl⟩ rfl ⟨_, rfl, rfl⟩ (Fit.mk rfl rfl rfl) rfl (leb rfl) (ROsub.nil rfl rfl) rfl ?_
  change GG _ _ _ _ _ _ _ _ _ (w_X7_turn c_aimed_askers c_aimed_places c_aimed_seatBits c_aimed_entries c_board_askers c_board_places c_row c_aimed_best c_aimed_clipAll c_aimed_clipToOne c_aimed_clipToTwo c_aimed_firstOf c_aimed_gains c_aimed_left c_aimed_next c_aimed_solvedGains c_aimed_ways c_all_slots c_board_seats c_board_wishes u_above u_below u_board_age) [some (.ref 0), some (.int a1), some (.int a2), none, none] [.int r1]
  refine G_if_eq 19 dX7_turn_8 (by decide) (fun h3 => ?_) (fun h3 => ?_)
  · replace hf := ob_t h3 hf
    refine G_bipush (-2 : Int32) dX7_turn_19 (by decide) ?_
    obtain rfl := os hf
    exact G_ireturn dX7_turn_21 rfl
  · replace hf := ob_f h3 hf
    refine G_aload_n dX7_turn_11 rfl rfl ?_
    refine G_iload_n dX7_turn_12 rfl rfl ?_
    obtain ⟨r4, hc5, hf⟩ := ob hf
    refine G_callV (μ2 := mu_X7_isOrder) (As := [.int a1]) (w2 := (w_X7_turn c_aimed_askers c_aimed_places c_aimed_seatBits c_aimed_entries c_board_askers c_board_places c_row c_aimed_best c_aimed_clipAll c_aimed_clipToOne c_aimed_clipToTwo c_aimed_firstOf c_aimed_gains c_aimed_left c_aimed_next c_aimed_solvedGains c_aimed_ways c_all_slots c_board_seats c_board_wishes u_above u_below u_board_age)) (wc := (w_X7_isOrder c_board_askers u_above u_below c_board_places u_board_age)) (wc2 := (w_X7_isOrder c_board_askers u_above u_below c_board_places u_board_age)) (rest := []) (rv := [.int r4]) [0, 2] [1000, 1001, 1, 1002, 1003, 1004, 1005, 1006, 3, 15, 16, 1007, 1008] [1, 3, 4, 5, 6, 7, 8, 9, 10, 11, 12, 13, 14, 15, 16] [15, 0, 16, 1, 2, 3, 4, 5, 6, 7, 8, 9, 10, 11, 12, 13, 14] (c_X7_isOrder hc5) cw_X7_isOrder m_X7_210 dX7_turn_13 rfl ⟨leb rfl, leb rfl⟩ ⟨rfl, rfl⟩ rfl ⟨_, rfl, rfl⟩ (Fit.mk rfl rfl rfl) rfl (leb rfl) (ROsub.nil rfl rfl) rfl ?_
    change GG _ _ _ _ _ _ _ _ _ (w_X7_turn c_aimed_askers c_aimed_places c_aimed_seatBits c_aimed_entries c_board_askers c_board_places c_row c_aimed_best c_aimed_clipAll c_aimed_clipToOne c_aimed_clipToTwo c_aimed_firstOf c_aimed_gains c_aimed_left c_aimed_next c_aimed_solvedGains c_aimed_ways c_all_slots c_board_seats c_board_wishes u_above u_below u_board_age) [some (.ref 0), some (.int a1), some (.int a2), none, none] [.int r4]
    refine G_if_ne 22 dX7_turn_16 (by decide) (fun h6 => ?_) (fun h6 => ?_)
    · replace hf := ob_f h6 hf
      refine G_iconst 0 dX7_turn_22 (by decide) ?_
      refine G_istore_n dX7_turn_23 rfl (ltb rfl) ?_
      change GG _ _ _ _ _ _ _ _ _ _ [some (.ref 0), some (.int a1), some (.int a2), some (.int 0), none] _
      exact g_X7_turn_24 N hf
    · replace hf := ob_t h6 hf
      refine G_bipush (-2 : Int32) dX7_turn_19 (by decide) ?_
      obtain rfl := os hf
      exact G_ireturn dX7_turn_21 rfl
set_option maxRecDepth 20000 in
theorem dX7_round_0 : decode cX7_round 0 = .ok (.iload_n 1, 1) := by decide +kernel
set_option maxRecDepth 20000 in
theorem dX7_round_1 : decode cX7_round 1 = .ok (.invokestatic 135, 3) := by decide +kernel
set_option maxRecDepth 20000 in
theorem dX7_round_4 : decode cX7_round 4 = .ok (.ifCond .eq 14, 3) := by decide +kernel
set_option maxRecDepth 20000 in
theorem dX7_round_7 : decode cX7_round 7 = .ok (.aload_n 0, 1) := by decide +kernel
set_option maxRecDepth 20000 in
theorem dX7_round_8 : decode cX7_round 8 = .ok (.getfield 10, 3) := by decide +kernel
set_option maxRecDepth 20000 in
theorem dX7_round_11 : decode cX7_round 11 = .ok (.iload_n 2, 1) := by decide +kernel
set_option maxRecDepth 20000 in
theorem dX7_round_12 : decode cX7_round 12 = .ok (.invokevirtual 109, 3) := by decide +kernel
set_option maxRecDepth 20000 in
theorem dX7_round_15 : decode cX7_round 15 = .ok (.ifCond .ne 6, 3) := by decide +kernel
set_option maxRecDepth 20000 in
theorem dX7_round_18 : decode cX7_round 18 = .ok (.bipush (-2), 2) := by decide +kernel
set_option maxRecDepth 20000 in
theorem dX7_round_20 : decode cX7_round 20 = .ok (.ireturn, 1) := by decide +kernel
set_option maxRecDepth 20000 in
theorem dX7_round_21 : decode cX7_round 21 = .ok (.aload_n 0, 1) := by decide +kernel
set_option maxRecDepth 20000 in
theorem dX7_round_22 : decode cX7_round 22 = .ok (.getfield 43, 3) := by decide +kernel
set_option maxRecDepth 20000 in
theorem dX7_round_25 : decode cX7_round 25 = .ok (.iload_n 1, 1) := by decide +kernel
set_option maxRecDepth 20000 in
theorem dX7_round_26 : decode cX7_round 26 = .ok (.invokevirtual 216, 3) := by decide +kernel
set_option maxRecDepth 20000 in
theorem dX7_round_29 : decode cX7_round 29 = .ok (.aload_n 0, 1) := by decide +kernel
set_option maxRecDepth 20000 in
theorem dX7_round_30 : decode cX7_round 30 = .ok (.getfield 43, 3) := by decide +kernel
set_option maxRecDepth 20000 in
theorem dX7_round_33 : decode cX7_round 33 = .ok (.getfield 219, 3) := by decide +kernel
set_option maxRecDepth 20000 in
theorem dX7_round_36 : decode cX7_round 36 = .ok (.iload_n 2, 1) := by decide +kernel
set_option maxRecDepth 20000 in
theorem dX7_round_37 : decode cX7_round 37 = .ok (.iaload, 1) := by decide +kernel
set_option maxRecDepth 20000 in
theorem dX7_round_38 : decode cX7_round 38 = .ok (.ireturn, 1) := by decide +kernel
def f_X7_round (N : Nat) (c_board_askers : Int32) (c_board_places : Int32) (c_board_told : Nat → Int32) (c_board_wishes : Nat → Int32) (c_trade_gets : Nat → Int32) (c_trade_holderOf : Nat → Int32) (c_trade_holds : Nat → Int32) (c_trade_pointsAt : Nat → Int32) (c_trade_servedIn : Nat → Int32) (a1 : Int32) (a2 : Int32) : Option (Int32 × (Nat → Int32) × (Nat → Int32) × (Nat → Int32) × (Nat → Int32) × (Nat → Int32)) :=
  (f_X7_isTold N a1).bind fun r1 =>
  (if r1 = 0 then
    some ((-2 : Int32), c_trade_gets, c_trade_holderOf, c_trade_holds, c_trade_pointsAt, c_trade_servedIn)
  else
    (f_X0_isAsker N c_board_askers a2).bind fun r4 =>
    (if r4 = 0 then
      some ((-2 : Int32), c_trade_gets, c_trade_holderOf, c_trade_holds, c_trade_pointsAt, c_trade_servedIn)
    else
      (f_X6_run N c_board_askers c_board_places c_board_told c_board_wishes c_trade_gets c_trade_holderOf c_trade_holds c_trade_pointsAt c_trade_servedIn a1).bind fun (o7, o8, o9, o10, o11) =>
      (rdI 8 o11 a2).bind fun t13 =>
      some (t13, o7, o8, o9, o10, o11)))
set_option maxHeartbeats 4000000 in
set_option maxRecDepth 100000 in
theorem c_X7_round {N : Nat} {c_board_askers : Int32} {c_board_places : Int32} {c_board_told : Nat → Int32} {c_board_wishes : Nat → Int32} {c_trade_gets : Nat → Int32} {c_trade_holderOf : Nat → Int32} {c_trade_holds : Nat → Int32} {c_trade_pointsAt : Nat → Int32} {c_trade_servedIn : Nat → Int32} {u_above : Int64} {u_below : Int64} {u_board_age : Int32} {a1 : Int32} {a2 : Int32} {res : Int32 × (Nat → Int32) × (Nat → Int32) × (Nat → Int32) × (Nat → Int32) × (Nat → Int32)} (hf : f_X7_round N c_board_askers c_board_places c_board_told c_board_wishes c_trade_gets c_trade_holderOf c_trade_holds c_trade_pointsAt c_trade_servedIn a1 a2 = some res) : Con mu_X7_round [.ref 0, .int a1, .int a2] (w_X7_round c_board_askers c_board_places c_board_told c_board_wishes c_trade_gets c_trade_holderOf c_trade_holds c_trade_pointsAt c_trade_servedIn u_above u_below u_board_age) (some (.int res.1)) (w_X7_round c_board_askers c_board_places c_board_told c_board_wishes res.2.1 res.2.2.1 res.2.2.2.1 res.2.2.2.2.1 res.2.2.2.2.2 u_above u_below u_board_age) := by
  refine Con.mk (show plainName RX7 = true by decide +kernel) (leb rfl) (fun κ ω A ad => ?_)
  change GG mu_X7_round κ ω A (QR κ ω A ad (some (.int res.1)) (w_X7_round c_board_askers c_board_places c_board_told c_board_wishes res.2.1 res.2.2.1 res.2.2.2.1 res.2.2.2.2.1 res.2.2.2.2.2 u_above u_below u_board_age)) ad 0 0 0 (w_X7_round c_board_askers c_board_places c_board_told c_board_wishes c_trade_gets c_trade_holderOf c_trade_holds c_trade_pointsAt c_trade_servedIn u_above u_below u_board_age) [some (.ref 0), some (.int a1), some (.int a2)] []
  refine G_iload_n dX7_round_0 rfl rfl ?_
  obtain ⟨r1, hc2, hf⟩ := ob hf
  refine G_callS (μ2 := mu_X7_isTold) (As := [.int a1]) (w2 := (w_X7_round c_board_askers c_board_places c_board_told c_board_wishes c_trade_gets c_trade_holderOf c_trade_holds c_trade_pointsAt c_trade_servedIn u_above u_below u_board_age)) (wc := []) (wc2 := []) (rest := []) (rv := [.int r1]) [] [] [0, 1, 2, 3, 4, 5, 6, 7, 8, 9] [0, 1, 2, 3, 4, 5, 6, 7, 8, 9] (c_X7_isTold hc2) cw_X7_isTold m_X7_135 rfl dX7_round_1 rfl ⟨leb rfl, leb rfl⟩ ⟨rfl, rfl⟩ (Fit.mk rfl rfl rfl) rfl (leb rfl) (ROsub.nil rfl rfl) rfl ?_
  change GG _ _ _ _ _ _ _ _ _ (w_X7_round c_board_askers c_board_places c_board_told c_board_wishes c_trade_gets c_trade_holderOf c_trade_holds c_trade_pointsAt c_trade_servedIn u_above u_below u_board_age) [some (.ref 0), some (.int a1), some (.int a2)] [.int r1]
  refine G_if_eq 18 dX7_round_4 (by decide) (fun h3 => ?_) (fun h3 => ?_)
  · replace hf := ob_t h3 hf
    refine G_bipush (-2 : Int32) dX7_round_18 (by decide) ?_
    obtain rfl := os hf
    exact G_ireturn dX7_round_20 rfl
  · replace hf := ob_f h3 hf
    refine G_aload_n dX7_round_7 rfl rfl ?_
    refine G_get (v := .ref 1) F_X7_10 dX7_round_8 rfl rfl ?_
    refine G_iload_n dX7_round_11 rfl rfl ?_
    obtain ⟨r4, hc5, hf⟩ := ob hf
    refine G_callV (μ2 := mu_X0_isAsker) (As := [.int a2]) (w2 := (w_X7_round c_board_askers c_board_places c_board_told c_board_wishes c_trade_gets c_trade_holderOf c_trade_holds c_trade_pointsAt c_trade_servedIn u_above u_below u_board_age)) (wc := (w_X0_isAsker c_board_askers c_board_places u_board_age)) (wc2 := (w_X0_isAsker c_board_askers c_board_places u_board_age)) (rest := []) (rv := [.int r4]) [1] [1008, 4, 1009, 3] [0, 2, 3, 4, 5, 6, 7, 8, 9] [0, 9, 1, 2, 3, 4, 5, 6, 7, 8] (c_X0_isAsker hc5) cw_X0_isAsker m_X7_109 dX7_round_12 rfl ⟨leb rfl, leb rfl⟩ ⟨rfl, rfl⟩ rfl ⟨_, rfl, rfl⟩ (Fit.mk rfl rfl rfl) rfl (leb rfl) (ROsub.nil rfl rfl) rfl ?_
    change GG _ _ _ _ _ _ _ _ _ (w_X7_round c_board_askers c_board_places c_board_told c_board_wishes c_trade_gets c_trade_holderOf c_trade_holds c_trade_pointsAt c_trade_servedIn u_above u_below u_board_age) [some (.ref 0), some (.int a1), some (.int a2)] [.int r4]
    refine G_if_ne 21 dX7_round_15 (by decide) (fun h6 => ?_) (fun h6 => ?_)
    · replace hf := ob_f h6 hf
      refine G_aload_n dX7_round_21 rfl rfl ?_
      refine G_get (v := .ref 2) F_X7_43 dX7_round_22 rfl rfl ?_
      refine G_iload_n dX7_round_25 rfl rfl ?_
      obtain ⟨⟨o7, o8, o9, o10, o11⟩, hc12, hf⟩ := ob hf
      refine G_callV (μ2 := mu_X6_run) (As := [.int a1]) (w2 := (w_X7_round c_board_askers c_board_places c_board_told c_board_wishes o7 o8 o9 o10 o11 u_above u_below u_board_age)) (wc := (w_X6_run c_board_askers c_board_places c_trade_gets c_trade_holderOf c_trade_holds c_trade_pointsAt c_trade_servedIn c_board_told c_board_wishes u_board_age)) (wc2 := (w_X6_run c_board_askers c_board_places o7 o8 o9 o10 o11 c_board_told c_board_wishes u_board_age)) (rest := []) (rv := []) [2, 1, 5, 6, 7, 8, 9, 3, 4] [1008, 1009] [0] [0, 2, 1, 8, 9, 3, 4, 5, 6, 7] (c_X6_run hc12) cw_X6_run m_X7_216 dX7_round_26 rfl ⟨leb rfl, leb rfl⟩ ⟨rfl, rfl⟩ rfl ⟨_, rfl, rfl⟩ (Fit.mk rfl rfl rfl) rfl (leb rfl) (ROsub.nil rfl rfl) rfl ?_
      change GG _ _ _ _ _ _ _ _ _ (w_X7_round c_board_askers c_board_places c_board_told c_board_wishes o7 o8 o9 o10 o11 u_above u_below u_board_age) [some (.ref 0), some (.int a1), some (.int a2)] []
      refine G_aload_n dX7_round_29 rfl rfl ?_
      refine G_get (v := .ref 2) F_X7_43 dX7_round_30 rfl rfl ?_
      refine G_get (v := .ref 9) F_X7_219 dX7_round_33 rfl rfl ?_
      refine G_iload_n dX7_round_36 rfl rfl ?_
      obtain ⟨t13, ht13, hf⟩ := ob hf
      refine G_iald dX7_round_37 rfl ht13 ?_
      obtain rfl := os hf
      exact G_ireturn dX7_round_38 rfl
    · replace hf := ob_t h6 hf
      refine G_bipush (-2 : Int32) dX7_round_18 (by decide) ?_
      obtain rfl := os hf
      exact G_ireturn dX7_round_20 rfl
set_option maxRecDepth 20000 in
theorem dX7_leaving_0 : decode cX7_leaving 0 = .ok (.iload_n 1, 1) := by decide +kernel
set_option maxRecDepth 20000 in
theorem dX7_leaving_1 : decode cX7_leaving 1 = .ok (.invokestatic 135, 3) := by decide +kernel
set_option maxRecDepth 20000 in
theorem dX7_leaving_4 : decode cX7_leaving 4 = .ok (.ifCond .eq 15, 3) := by decide +kernel
set_option maxRecDepth 20000 in
theorem dX7_leaving_7 : decode cX7_leaving 7 = .ok (.iload_n 2, 1) := by decide +kernel
set_option maxRecDepth 20000 in
theorem dX7_leaving_8 : decode cX7_leaving 8 = .ok (.invokestatic 135, 3) := by decide +kernel
set_option maxRecDepth 20000 in
theorem dX7_leaving_11 : decode cX7_leaving 11 = .ok (.ifCond .eq 8, 3) := by decide +kernel
set_option maxRecDepth 20000 in
theorem dX7_leaving_14 : decode cX7_leaving 14 = .ok (.iload_n 3, 1) := by decide +kernel
set_option maxRecDepth 20000 in
theorem dX7_leaving_15 : decode cX7_leaving 15 = .ok (.iconst (-1), 1) := by decide +kernel
set_option maxRecDepth 20000 in
theorem dX7_leaving_16 : decode cX7_leaving 16 = .ok (.if_icmp .ge 6, 3) := by decide +kernel
set_option maxRecDepth 20000 in
theorem dX7_leaving_19 : decode cX7_leaving 19 = .ok (.bipush (-2), 2) := by decide +kernel
set_option maxRecDepth 20000 in
theorem dX7_leaving_21 : decode cX7_leaving 21 = .ok (.ireturn, 1) := by decide +kernel
set_option maxRecDepth 20000 in
theorem dX7_leaving_22 : decode cX7_leaving 22 = .ok (.aload_n 0, 1) := by decide +kernel
set_option maxRecDepth 20000 in
theorem dX7_leaving_23 : decode cX7_leaving 23 = .ok (.getfield 50, 3) := by decide +kernel
set_option maxRecDepth 20000 in
theorem dX7_leaving_26 : decode cX7_leaving 26 = .ok (.iload_n 1, 1) := by decide +kernel
set_option maxRecDepth 20000 in
theorem dX7_leaving_27 : decode cX7_leaving 27 = .ok (.iload_n 2, 1) := by decide +kernel
set_option maxRecDepth 20000 in
theorem dX7_leaving_28 : decode cX7_leaving 28 = .ok (.invokevirtual 222, 3) := by decide +kernel
set_option maxRecDepth 20000 in
theorem dX7_leaving_31 : decode cX7_leaving 31 = .ok (.iload_n 3, 1) := by decide +kernel
set_option maxRecDepth 20000 in
theorem dX7_leaving_32 : decode cX7_leaving 32 = .ok (.iconst (-1), 1) := by decide +kernel
set_option maxRecDepth 20000 in
theorem dX7_leaving_33 : decode cX7_leaving 33 = .ok (.if_icmp .ne 11, 3) := by decide +kernel
set_option maxRecDepth 20000 in
theorem dX7_leaving_36 : decode cX7_leaving 36 = .ok (.aload_n 0, 1) := by decide +kernel
set_option maxRecDepth 20000 in
theorem dX7_leaving_37 : decode cX7_leaving 37 = .ok (.getfield 50, 3) := by decide +kernel
set_option maxRecDepth 20000 in
theorem dX7_leaving_40 : decode cX7_leaving 40 = .ok (.getfield 225, 3) := by decide +kernel
set_option maxRecDepth 20000 in
theorem dX7_leaving_43 : decode cX7_leaving 43 = .ok (.ireturn, 1) := by decide +kernel
set_option maxRecDepth 20000 in
theorem dX7_leaving_44 : decode cX7_leaving 44 = .ok (.iload_n 3, 1) := by decide +kernel
set_option maxRecDepth 20000 in
theorem dX7_leaving_45 : decode cX7_leaving 45 = .ok (.aload_n 0, 1) := by decide +kernel
set_option maxRecDepth 20000 in
theorem dX7_leaving_46 : decode cX7_leaving 46 = .ok (.getfield 50, 3) := by decide +kernel
set_option maxRecDepth 20000 in
theorem dX7_leaving_49 : decode cX7_leaving 49 = .ok (.getfield 225, 3) := by decide +kernel
set_option maxRecDepth 20000 in
theorem dX7_leaving_52 : decode cX7_leaving 52 = .ok (.if_icmp .ge 21, 3) := by decide +kernel
set_option maxRecDepth 20000 in
theorem dX7_leaving_55 : decode cX7_leaving 55 = .ok (.iload_n 3, 1) := by decide +kernel
set_option maxRecDepth 20000 in
theorem dX7_leaving_56 : decode cX7_leaving 56 = .ok (.bipush 8, 2) := by decide +kernel
set_option maxRecDepth 20000 in
theorem dX7_leaving_58 : decode cX7_leaving 58 = .ok (.if_icmp .ge 15, 3) := by decide +kernel
set_option maxRecDepth 20000 in
theorem dX7_leaving_61 : decode cX7_leaving 61 = .ok (.aload_n 0, 1) := by decide +kernel
set_option maxRecDepth 20000 in
theorem dX7_leaving_62 : decode cX7_leaving 62 = .ok (.getfield 50, 3) := by decide +kernel
set_option maxRecDepth 20000 in
theorem dX7_leaving_65 : decode cX7_leaving 65 = .ok (.getfield 228, 3) := by decide +kernel
set_option maxRecDepth 20000 in
theorem dX7_leaving_68 : decode cX7_leaving 68 = .ok (.iload_n 3, 1) := by decide +kernel
set_option maxRecDepth 20000 in
theorem dX7_leaving_69 : decode cX7_leaving 69 = .ok (.iaload, 1) := by decide +kernel
set_option maxRecDepth 20000 in
theorem dX7_leaving_70 : decode cX7_leaving 70 = .ok (.goto 4, 3) := by decide +kernel
set_option maxRecDepth 20000 in
theorem dX7_leaving_73 : decode cX7_leaving 73 = .ok (.iconst (-1), 1) := by decide +kernel
set_option maxRecDepth 20000 in
theorem dX7_leaving_74 : decode cX7_leaving 74 = .ok (.ireturn, 1) := by decide +kernel
def f_X7_leaving (N : Nat) (c_board_askers : Int32) (c_board_told : Nat → Int32) (c_board_wishes : Nat → Int32) (c_ring_length : Int32) (c_ring_members : Nat → Int32) (c_ring_wants : Nat → Int32) (a1 : Int32) (a2 : Int32) (a3 : Int32) : Option (Int32 × Int32 × (Nat → Int32) × (Nat → Int32)) :=
  (f_X7_isTold N a1).bind fun r1 =>
  (if r1 = 0 then
    some ((-2 : Int32), c_ring_length, c_ring_members, c_ring_wants)
  else
    (f_X7_isTold N a2).bind fun r4 =>
    (if r4 = 0 then
      some ((-2 : Int32), c_ring_length, c_ring_members, c_ring_wants)
    else
      (if (-1 : Int32) ≤ a3 then
        (f_X3_find N c_board_askers c_board_told c_board_wishes c_ring_length c_ring_members c_ring_wants a1 a2).bind fun (o8, o9, o10) =>
        (if a3 = (-1 : Int32) then
          some (o8, o8, o9, o10)
        else
          (if o8 ≤ a3 then
            some ((-1 : Int32), o8, o9, o10)
          else
            (if 8 ≤ a3 then
              some ((-1 : Int32), o8, o9, o10)
            else
              (rdI 8 o9 a3).bind fun t15 =>
              some (t15, o8, o9, o10))))
      else
        some ((-2 : Int32), c_ring_length, c_ring_members, c_ring_wants))))
set_option maxHeartbeats 4000000 in
set_option maxRecDepth 100000 in
theorem c_X7_leaving {N : Nat} {c_board_askers : Int32} {c_board_told : Nat → Int32} {c_board_wishes : Nat → Int32} {c_ring_length : Int32} {c_ring_members : Nat → Int32} {c_ring_wants : Nat → Int32} {u_above : Int64} {u_below : Int64} {u_board_places : Int32} {u_board_age : Int32} {a1 : Int32} {a2 : Int32} {a3 : Int32} {res : Int32 × Int32 × (Nat → Int32) × (Nat → Int32)} (hf : f_X7_leaving N c_board_askers c_board_told c_board_wishes c_ring_length c_ring_members c_ring_wants a1 a2 a3 = some res) : Con mu_X7_leaving [.ref 0, .int a1, .int a2, .int a3] (w_X7_leaving c_board_askers c_ring_length c_board_told c_board_wishes c_ring_members c_ring_wants u_above u_below u_board_places u_board_age) (some (.int res.1)) (w_X7_leaving c_board_askers res.2.1 c_board_told c_board_wishes res.2.2.1 res.2.2.2 u_above u_below u_board_places u_board_age) := by
  refine Con.mk (show plainName RX7 = true by decide +kernel) (leb rfl) (fun κ ω A ad => ?_)
  change GG mu_X7_leaving κ ω A (QR κ ω A ad (some (.int res.1)) (w_X7_leaving c_board_askers res.2.1 c_board_told c_board_wishes res.2.2.1 res.2.2.2 u_above u_below u_board_places u_board_age)) ad 0 0 0 (w_X7_leaving c_board_askers c_ring_length c_board_told c_board_wishes c_ring_members c_ring_wants u_above u_below u_board_places u_board_age) [some (.ref 0), some (.int a1), some (.int a2), some (.int a3)] []
  refine G_iload_n dX7_leaving_0 rfl rfl ?_
  obtain ⟨r1, hc2, hf⟩ := ob hf
  refine G_callS (μ2 := mu_X7_isTold) (As := [.int a1]) (w2 := (w_X7_leaving c_board_askers c_ring_length c_board_told c_board_wishes c_ring_members c_ring_wants u_above u_below u_board_places u_board_age)) (wc := []) (wc2 := []) (rest := []) (rv := [.int r1]) [] [] [0, 1, 2, 3, 4, 5, 6] [0, 1, 2, 3, 4, 5, 6] (c_X7_isTold hc2) cw_X7_isTold m_X7_135 rfl dX7_leaving_1 rfl ⟨leb rfl, leb rfl⟩ ⟨rfl, rfl⟩ (Fit.mk rfl rfl rfl) rfl (leb rfl) (ROsub.nil rfl rfl) rfl ?_
  change GG _ _ _ _ _ _ _ _ _ (w_X7_leaving c_board_askers c_ring_length c_board_told c_board_wishes c_ring_members c_ring_wants u_above u_below u_board_places u_board_age) [some (.ref 0), some (.int a1), some (.int a2), some (.int a3)] [.int r1]
  refine G_if_eq 19 dX7_leaving_4 (by decide) (fun h3 => ?_) (fun h3 => ?_)
  · replace hf := ob_t h3 hf
    refine G_bipush (-2 : Int32) dX7_leaving_19 (by decide) ?_
    obtain rfl := os hf
    exact G_ireturn dX7_leaving_21 rfl
  · replace hf := ob_f h3 hf
    refine G_iload_n dX7_leaving_7 rfl rfl ?_
    obtain ⟨r4, hc5, hf⟩ := ob hf
    refine G_callS (μ2 := mu_X7_isTold) (As := [.int a2]) (w2 := (w_X7_leaving c_board_askers c_ring_length c_board_told c_board_wishes c_ring_members c_ring_wants u_above u_below u_board_places u_board_age)) (wc := []) (wc2 := []) (rest := []) (rv := [.int r4]) [] [] [0, 1, 2, 3, 4, 5, 6] [0, 1, 2, 3, 4, 5, 6] (c_X7_isTold hc5) cw_X7_isTold m_X7_135 rfl dX7_leaving_8 rfl ⟨leb rfl, leb rfl⟩ ⟨rfl, rfl⟩ (Fit.mk rfl rfl rfl) rfl (leb rfl) (ROsub.nil rfl rfl) rfl ?_
    change GG _ _ _ _ _ _ _ _ _ (w_X7_leaving c_board_askers c_ring_length c_board_told c_board_wishes c_ring_members c_ring_wants u_above u_below u_board_places u_board_age) [some (.ref 0), some (.int a1), some (.int a2), some (.int a3)] [.int r4]
    refine G_if_eq 19 dX7_leaving_11 (by decide) (fun h6 => ?_) (fun h6 => ?_)
    · replace hf := ob_t h6 hf
      refine G_bipush (-2 : Int32) dX7_leaving_19 (by decide) ?_
      obtain rfl := os hf
      exact G_ireturn dX7_leaving_21 rfl
    · replace hf := ob_f h6 hf
      refine G_iload_n dX7_leaving_14 rfl rfl ?_
      refine G_iconst (-1 : Int32) dX7_leaving_15 (by decide) ?_
      refine G_icmp_ge 22 dX7_leaving_16 (by decide) (fun h7 => ?_) (fun h7 => ?_)
      · replace hf := ob_t h7 hf
        refine G_aload_n dX7_leaving_22 rfl rfl ?_
        refine G_get (v := .ref 2) F_X7_50 dX7_leaving_23 rfl rfl ?_
        refine G_iload_n dX7_leaving_26 rfl rfl ?_
        refine G_iload_n dX7_leaving_27 rfl rfl ?_
        obtain ⟨⟨o8, o9, o10⟩, hc11, hf⟩ := ob hf
        refine G_callV (μ2 := mu_X3_find) (As := [.int a1, .int a2]) (w2 := (w_X7_leaving c_board_askers o8 c_board_told c_board_wishes o9 o10 u_above u_below u_board_places u_board_age)) (wc := (w_X3_find c_ring_length c_board_askers c_ring_members c_ring_wants c_board_told c_board_wishes u_board_places u_board_age)) (wc2 := (w_X3_find o8 c_board_askers o9 o10 c_board_told c_board_wishes u_board_places u_board_age)) (rest := []) (rv := []) [2, 1, 5, 6, 3, 4] [1008, 1009] [0] [0, 2, 1, 5, 6, 3, 4] (c_X3_find hc11) cw_X3_find m_X7_222 dX7_leaving_28 rfl ⟨leb rfl, leb rfl⟩ ⟨rfl, rfl⟩ rfl ⟨_, rfl, rfl⟩ (Fit.mk rfl rfl rfl) rfl (leb rfl) (ROsub.nil rfl rfl) rfl ?_
        change GG _ _ _ _ _ _ _ _ _ (w_X7_leaving c_board_askers o8 c_board_told c_board_wishes o9 o10 u_above u_below u_board_places u_board_age) [some (.ref 0), some (.int a1), some (.int a2), some (.int a3)] []
        refine G_iload_n dX7_leaving_31 rfl rfl ?_
        refine G_iconst (-1 : Int32) dX7_leaving_32 (by decide) ?_
        refine G_icmp_ne 44 dX7_leaving_33 (by decide) (fun h12 => ?_) (fun h12 => ?_)
        · replace hf := ob_f h12 hf
          refine G_iload_n dX7_leaving_44 rfl rfl ?_
          refine G_aload_n dX7_leaving_45 rfl rfl ?_
          refine G_get (v := .ref 2) F_X7_50 dX7_leaving_46 rfl rfl ?_
          refine G_get (v := .int o8) F_X7_225 dX7_leaving_49 rfl rfl ?_
          refine G_icmp_ge 73 dX7_leaving_52 (by decide) (fun h13 => ?_) (fun h13 => ?_)
          · replace hf := ob_t h13 hf
            refine G_iconst (-1 : Int32) dX7_leaving_73 (by decide) ?_
            obtain rfl := os hf
            exact G_ireturn dX7_leaving_74 rfl
          · replace hf := ob_f h13 hf
            refine G_iload_n dX7_leaving_55 rfl rfl ?_
            refine G_bipush 8 dX7_leaving_56 (by decide) ?_
            refine G_icmp_ge 73 dX7_leaving_58 (by decide) (fun h14 => ?_) (fun h14 => ?_)
            · replace hf := ob_t h14 hf
              refine G_iconst (-1 : Int32) dX7_leaving_73 (by decide) ?_
              obtain rfl := os hf
              exact G_ireturn dX7_leaving_74 rfl
            · replace hf := ob_f h14 hf
              refine G_aload_n dX7_leaving_61 rfl rfl ?_
              refine G_get (v := .ref 2) F_X7_50 dX7_leaving_62 rfl rfl ?_
              refine G_get (v := .ref 5) F_X7_228 dX7_leaving_65 rfl rfl ?_
              refine G_iload_n dX7_leaving_68 rfl rfl ?_
              obtain ⟨t15, ht15, hf⟩ := ob hf
              refine G_iald dX7_leaving_69 rfl ht15 ?_
              refine G_goto 74 dX7_leaving_70 (by decide) ?_
              obtain rfl := os hf
              exact G_ireturn dX7_leaving_74 rfl
        · replace hf := ob_t h12 hf
          refine G_aload_n dX7_leaving_36 rfl rfl ?_
          refine G_get (v := .ref 2) F_X7_50 dX7_leaving_37 rfl rfl ?_
          refine G_get (v := .int o8) F_X7_225 dX7_leaving_40 rfl rfl ?_
          obtain rfl := os hf
          exact G_ireturn dX7_leaving_43 rfl
      · replace hf := ob_f h7 hf
        refine G_bipush (-2 : Int32) dX7_leaving_19 (by decide) ?_
        obtain rfl := os hf
        exact G_ireturn dX7_leaving_21 rfl
set_option maxRecDepth 20000 in
theorem dX7_chance_0 : decode cX7_chance 0 = .ok (.aload_n 0, 1) := by decide +kernel
set_option maxRecDepth 20000 in
theorem dX7_chance_1 : decode cX7_chance 1 = .ok (.getfield 10, 3) := by decide +kernel
set_option maxRecDepth 20000 in
theorem dX7_chance_4 : decode cX7_chance 4 = .ok (.iload_n 1, 1) := by decide +kernel
set_option maxRecDepth 20000 in
theorem dX7_chance_5 : decode cX7_chance 5 = .ok (.invokevirtual 109, 3) := by decide +kernel
set_option maxRecDepth 20000 in
theorem dX7_chance_8 : decode cX7_chance 8 = .ok (.ifCond .eq 14, 3) := by decide +kernel
set_option maxRecDepth 20000 in
theorem dX7_chance_11 : decode cX7_chance 11 = .ok (.aload_n 0, 1) := by decide +kernel
set_option maxRecDepth 20000 in
theorem dX7_chance_12 : decode cX7_chance 12 = .ok (.getfield 10, 3) := by decide +kernel
set_option maxRecDepth 20000 in
theorem dX7_chance_15 : decode cX7_chance 15 = .ok (.iload_n 2, 1) := by decide +kernel
set_option maxRecDepth 20000 in
theorem dX7_chance_16 : decode cX7_chance 16 = .ok (.invokevirtual 98, 3) := by decide +kernel
set_option maxRecDepth 20000 in
theorem dX7_chance_19 : decode cX7_chance 19 = .ok (.ifCond .ne 6, 3) := by decide +kernel
set_option maxRecDepth 20000 in
theorem dX7_chance_22 : decode cX7_chance 22 = .ok (.bipush (-2), 2) := by decide +kernel
set_option maxRecDepth 20000 in
theorem dX7_chance_24 : decode cX7_chance 24 = .ok (.ireturn, 1) := by decide +kernel
set_option maxRecDepth 20000 in
theorem dX7_chance_25 : decode cX7_chance 25 = .ok (.aload_n 0, 1) := by decide +kernel
set_option maxRecDepth 20000 in
theorem dX7_chance_26 : decode cX7_chance 26 = .ok (.getfield 57, 3) := by decide +kernel
set_option maxRecDepth 20000 in
theorem dX7_chance_29 : decode cX7_chance 29 = .ok (.iload_n 1, 1) := by decide +kernel
set_option maxRecDepth 20000 in
theorem dX7_chance_30 : decode cX7_chance 30 = .ok (.iload_n 2, 1) := by decide +kernel
set_option maxRecDepth 20000 in
theorem dX7_chance_31 : decode cX7_chance 31 = .ok (.invokevirtual 231, 3) := by decide +kernel
set_option maxRecDepth 20000 in
theorem dX7_chance_34 : decode cX7_chance 34 = .ok (.ireturn, 1) := by decide +kernel
def f_X7_chance (N : Nat) (c_board_askers : Int32) (c_board_places : Int32) (c_board_age : Int32) (c_board_likes : Nat → Int32) (c_board_seats : Nat → Int32) (c_board_wishes : Nat → Int32) (c_lots_age : Int32) (c_lots_runs : Int64) (c_lots_wanting : Int32) (c_lots_wanted : Int32) (c_lots_answers : Nat → Int32) (c_lots_memoKeys : Nat → Int64) (c_lots_memos : Nat → Int32) (a1 : Int32) (a2 : Int32) : Option (Int32 × Int32 × Int64 × Int32 × Int32 × (Nat → Int32) × (Nat → Int64) × (Nat → Int32)) :=
  (f_X0_isAsker N c_board_askers a1).bind fun r1 =>
  (if r1 = 0 then
    some ((-2 : Int32), c_lots_age, c_lots_runs, c_lots_wanting, c_lots_wanted, c_lots_answers, c_lots_memoKeys, c_lots_memos)
  else
    (f_X0_isPlace N c_board_places a2).bind fun r4 =>
    (if r4 = 0 then
      some ((-2 : Int32), c_lots_age, c_lots_runs, c_lots_wanting, c_lots_wanted, c_lots_answers, c_lots_memoKeys, c_lots_memos)
    else
      (f_X2_ordersFor N c_board_askers c_board_places c_board_age c_board_likes c_board_seats c_board_wishes c_lots_age c_lots_runs c_lots_wanting c_lots_wanted c_lots_answers c_lots_memoKeys c_lots_memos a1 a2).bind fun (r7, o8, o9, o10, o11, o12, o13, o14) =>
      some (r7, o8, o9, o10, o11, o12, o13, o14)))
set_option maxHeartbeats 4000000 in
set_option maxRecDepth 100000 in
theorem c_X7_chance {N : Nat} {c_board_askers : Int32} {c_board_places : Int32} {c_board_age : Int32} {c_board_likes : Nat → Int32} {c_board_seats : Nat → Int32} {c_board_wishes : Nat → Int32} {c_lots_age : Int32} {c_lots_runs : Int64} {c_lots_wanting : Int32} {c_lots_wanted : Int32} {c_lots_answers : Nat → Int32} {c_lots_memoKeys : Nat → Int64} {c_lots_memos : Nat → Int32} {u_above : Int64} {u_below : Int64} {a1 : Int32} {a2 : Int32} {res : Int32 × Int32 × Int64 × Int32 × Int32 × (Nat → Int32) × (Nat → Int64) × (Nat → Int32)} (hf : f_X7_chance N c_board_askers c_board_places c_board_age c_board_likes c_board_seats c_board_wishes c_lots_age c_lots_runs c_lots_wanting c_lots_wanted c_lots_answers c_lots_memoKeys c_lots_memos a1 a2 = some res) : Con mu_X7_chance [.ref 0, .int a1, .int a2] (w_X7_chance c_board_askers c_board_places c_board_age c_lots_age c_lots_runs c_lots_wanting c_lots_wanted c_board_likes c_board_seats c_board_wishes c_lots_answers c_lots_memoKeys c_lots_memos u_above u_below) (some (.int res.1)) (w_X7_chance c_board_askers c_board_places c_board_age res.2.1 res.2.2.1 res.2.2.2.1 res.2.2.2.2.1 c_board_likes c_board_seats c_board_wishes res.2.2.2.2.2.1 res.2.2.2.2.2.2.1 res.2.2.2.2.2.2.2 u_above u_below) := by
  refine Con.mk (show plainName RX7 = true by decide +kernel) (leb rfl) (fun κ ω A ad => ?_)
  change GG mu_X7_chance κ ω A (QR κ ω A ad (some (.int res.1)) (w_X7_chance c_board_askers c_board_places c_board_age res.2.1 res.2.2.1 res.2.2.2.1 res.2.2.2.2.1 c_board_likes c_board_seats c_board_wishes res.2.2.2.2.2.1 res.2.2.2.2.2.2.1 res.2.2.2.2.2.2.2 u_above u_below)) ad 0 0 0 (w_X7_chance c_board_askers c_board_places c_board_age c_lots_age c_lots_runs c_lots_wanting c_lots_wanted c_board_likes c_board_seats c_board_wishes c_lots_answers c_lots_memoKeys c_lots_memos u_above u_below) [some (.ref 0), some (.int a1), some (.int a2)] []
  refine G_aload_n dX7_chance_0 rfl rfl ?_
  refine G_get (v := .ref 1) F_X7_10 dX7_chance_1 rfl rfl ?_
  refine G_iload_n dX7_chance_4 rfl rfl ?_
  obtain ⟨r1, hc2, hf⟩ := ob hf
  refine G_callV (μ2 := mu_X0_isAsker) (As := [.int a1]) (w2 := (w_X7_chance c_board_askers c_board_places c_board_age c_lots_age c_lots_runs c_lots_wanting c_lots_wanted c_board_likes c_board_seats c_board_wishes c_lots_answers c_lots_memoKeys c_lots_memos u_above u_below)) (wc := (w_X0_isAsker c_board_askers c_board_places c_board_age)) (wc2 := (w_X0_isAsker c_board_askers c_board_places c_board_age)) (rest := []) (rv := [.int r1]) [1] [4, 5, 3, 1009] [0, 2, 3, 4, 5, 6, 7, 8] [0, 8, 1, 2, 3, 4, 5, 6, 7] (c_X0_isAsker hc2) cw_X0_isAsker m_X7_109 dX7_chance_5 rfl ⟨leb rfl, leb rfl⟩ ⟨rfl, rfl⟩ rfl ⟨_, rfl, rfl⟩ (Fit.mk rfl rfl rfl) rfl (leb rfl) (ROsub.nil rfl rfl) rfl ?_
  change GG _ _ _ _ _ _ _ _ _ (w_X7_chance c_board_askers c_board_places c_board_age c_lots_age c_lots_runs c_lots_wanting c_lots_wanted c_board_likes c_board_seats c_board_wishes c_lots_answers c_lots_memoKeys c_lots_memos u_above u_below) [some (.ref 0), some (.int a1), some (.int a2)] [.int r1]
  refine G_if_eq 22 dX7_chance_8 (by decide) (fun h3 => ?_) (fun h3 => ?_)
  · replace hf := ob_t h3 hf
    refine G_bipush (-2 : Int32) dX7_chance_22 (by decide) ?_
    obtain rfl := os hf
    exact G_ireturn dX7_chance_24 rfl
  · replace hf := ob_f h3 hf
    refine G_aload_n dX7_chance_11 rfl rfl ?_
    refine G_get (v := .ref 1) F_X7_10 dX7_chance_12 rfl rfl ?_
    refine G_iload_n dX7_chance_15 rfl rfl ?_
    obtain ⟨r4, hc5, hf⟩ := ob hf
    refine G_callV (μ2 := mu_X0_isPlace) (As := [.int a2]) (w2 := (w_X7_chance c_board_askers c_board_places c_board_age c_lots_age c_lots_runs c_lots_wanting c_lots_wanted c_board_likes c_board_seats c_board_wishes c_lots_answers c_lots_memoKeys c_lots_memos u_above u_below)) (wc := (w_X0_isPlace c_board_places c_board_askers c_board_age)) (wc2 := (w_X0_isPlace c_board_places c_board_askers c_board_age)) (rest := []) (rv := [.int r4]) [1] [4, 5, 3, 1009] [0, 2, 3, 4, 5, 6, 7, 8] [0, 8, 1, 2, 3, 4, 5, 6, 7] (c_X0_isPlace hc5) cw_X0_isPlace m_X7_98 dX7_chance_16 rfl ⟨leb rfl, leb rfl⟩ ⟨rfl, rfl⟩ rfl ⟨_, rfl, rfl⟩ (Fit.mk rfl rfl rfl) rfl (leb rfl) (ROsub.nil rfl rfl) rfl ?_
    change GG _ _ _ _ _ _ _ _ _ (w_X7_chance c_board_askers c_board_places c_board_age c_lots_age c_lots_runs c_lots_wanting c_lots_wanted c_board_likes c_board_seats c_board_wishes c_lots_answers c_lots_memoKeys c_lots_memos u_above u_below) [some (.ref 0), some (.int a1), some (.int a2)] [.int r4]
    refine G_if_ne 25 dX7_chance_19 (by decide) (fun h6 => ?_) (fun h6 => ?_)
    · replace hf := ob_f h6 hf
      refine G_aload_n dX7_chance_25 rfl rfl ?_
      refine G_get (v := .ref 2) F_X7_57 dX7_chance_26 rfl rfl ?_
      refine G_iload_n dX7_chance_29 rfl rfl ?_
      refine G_iload_n dX7_chance_30 rfl rfl ?_
      obtain ⟨⟨r7, o8, o9, o10, o11, o12, o13, o14⟩, hc15, hf⟩ := ob hf
      refine G_callV (μ2 := mu_X2_ordersFor) (As := [.int a1, .int a2]) (w2 := (w_X7_chance c_board_askers c_board_places c_board_age o8 o9 o10 o11 c_board_likes c_board_seats c_board_wishes o12 o13 o14 u_above u_below)) (wc := (w_X2_ordersFor c_lots_age c_lots_runs c_lots_wanting c_lots_wanted c_lots_answers c_board_askers c_board_places c_board_age c_lots_memoKeys c_lots_memos c_board_likes c_board_seats c_board_wishes)) (wc2 := (w_X2_ordersFor o8 o9 o10 o11 o12 c_board_askers c_board_places c_board_age o13 o14 c_board_likes c_board_seats c_board_wishes)) (rest := []) (rv := [.int r7]) [2, 6, 1, 7, 8, 3, 4, 5] [1000, 1009] [0] [0, 3, 1, 6, 7, 8, 2, 4, 5] (c_X2_ordersFor hc15) cw_X2_ordersFor m_X7_231 dX7_chance_31 rfl ⟨leb rfl, leb rfl⟩ ⟨rfl, rfl⟩ rfl ⟨_, rfl, rfl⟩ (Fit.mk rfl rfl rfl) rfl (leb rfl) ⟨(List.forall_mem_cons.mpr ⟨⟨_, List.mem_of_getElem? (i := 0) rfl, rfl, rfl⟩, (fun _ h => absurd h List.not_mem_nil)⟩), (List.forall_mem_cons.mpr ⟨⟨_, List.mem_of_getElem? (i := 0) rfl, rfl, rfl, rfl⟩, (fun _ h => absurd h List.not_mem_nil)⟩)⟩ rfl ?_
      change GG _ _ _ _ _ _ _ _ _ (w_X7_chance c_board_askers c_board_places c_board_age o8 o9 o10 o11 c_board_likes c_board_seats c_board_wishes o12 o13 o14 u_above u_below) [some (.ref 0), some (.int a1), some (.int a2)] [.int r7]
      obtain rfl := os hf
      exact G_ireturn dX7_chance_34 rfl
    · replace hf := ob_t h6 hf
      refine G_bipush (-2 : Int32) dX7_chance_22 (by decide) ?_
      obtain rfl := os hf
      exact G_ireturn dX7_chance_24 rfl
set_option maxRecDepth 20000 in
theorem dX7_share_0 : decode cX7_share 0 = .ok (.aload_n 0, 1) := by decide +kernel
set_option maxRecDepth 20000 in
theorem dX7_share_1 : decode cX7_share 1 = .ok (.getfield 10, 3) := by decide +kernel
set_option maxRecDepth 20000 in
theorem dX7_share_4 : decode cX7_share 4 = .ok (.iload_n 1, 1) := by decide +kernel
set_option maxRecDepth 20000 in
theorem dX7_share_5 : decode cX7_share 5 = .ok (.invokevirtual 109, 3) := by decide +kernel
set_option maxRecDepth 20000 in
theorem dX7_share_8 : decode cX7_share 8 = .ok (.ifCond .eq 14, 3) := by decide +kernel
set_option maxRecDepth 20000 in
theorem dX7_share_11 : decode cX7_share 11 = .ok (.aload_n 0, 1) := by decide +kernel
set_option maxRecDepth 20000 in
theorem dX7_share_12 : decode cX7_share 12 = .ok (.getfield 10, 3) := by decide +kernel
set_option maxRecDepth 20000 in
theorem dX7_share_15 : decode cX7_share 15 = .ok (.iload_n 2, 1) := by decide +kernel
set_option maxRecDepth 20000 in
theorem dX7_share_16 : decode cX7_share 16 = .ok (.invokevirtual 98, 3) := by decide +kernel
set_option maxRecDepth 20000 in
theorem dX7_share_19 : decode cX7_share 19 = .ok (.ifCond .ne 6, 3) := by decide +kernel
set_option maxRecDepth 20000 in
theorem dX7_share_22 : decode cX7_share 22 = .ok (.bipush (-2), 2) := by decide +kernel
set_option maxRecDepth 20000 in
theorem dX7_share_24 : decode cX7_share 24 = .ok (.ireturn, 1) := by decide +kernel
set_option maxRecDepth 20000 in
theorem dX7_share_25 : decode cX7_share 25 = .ok (.aload_n 0, 1) := by decide +kernel
set_option maxRecDepth 20000 in
theorem dX7_share_26 : decode cX7_share 26 = .ok (.getfield 64, 3) := by decide +kernel
set_option maxRecDepth 20000 in
theorem dX7_share_29 : decode cX7_share 29 = .ok (.invokevirtual 234, 3) := by decide +kernel
set_option maxRecDepth 20000 in
theorem dX7_share_32 : decode cX7_share 32 = .ok (.aload_n 0, 1) := by decide +kernel
set_option maxRecDepth 20000 in
theorem dX7_share_33 : decode cX7_share 33 = .ok (.getfield 64, 3) := by decide +kernel
set_option maxRecDepth 20000 in
theorem dX7_share_36 : decode cX7_share 36 = .ok (.iload_n 1, 1) := by decide +kernel
set_option maxRecDepth 20000 in
theorem dX7_share_37 : decode cX7_share 37 = .ok (.iload_n 2, 1) := by decide +kernel
set_option maxRecDepth 20000 in
theorem dX7_share_38 : decode cX7_share 38 = .ok (.invokevirtual 236, 3) := by decide +kernel
set_option maxRecDepth 20000 in
theorem dX7_share_41 : decode cX7_share 41 = .ok (.lstore_n 3, 1) := by decide +kernel
set_option maxRecDepth 20000 in
theorem dX7_share_42 : decode cX7_share 42 = .ok (.lload_n 3, 1) := by decide +kernel
set_option maxRecDepth 20000 in
theorem dX7_share_43 : decode cX7_share 43 = .ok (.lconst 0, 1) := by decide +kernel
set_option maxRecDepth 20000 in
theorem dX7_share_44 : decode cX7_share 44 = .ok (.lcmp, 1) := by decide +kernel
set_option maxRecDepth 20000 in
theorem dX7_share_45 : decode cX7_share 45 = .ok (.ifCond .ne 5, 3) := by decide +kernel
set_option maxRecDepth 20000 in
theorem dX7_share_48 : decode cX7_share 48 = .ok (.iconst 0, 1) := by decide +kernel
set_option maxRecDepth 20000 in
theorem dX7_share_49 : decode cX7_share 49 = .ok (.ireturn, 1) := by decide +kernel
set_option maxRecDepth 20000 in
theorem dX7_share_50 : decode cX7_share 50 = .ok (.aload_n 0, 1) := by decide +kernel
set_option maxRecDepth 20000 in
theorem dX7_share_51 : decode cX7_share 51 = .ok (.lload_n 3, 1) := by decide +kernel
set_option maxRecDepth 20000 in
theorem dX7_share_52 : decode cX7_share 52 = .ok (.aload_n 0, 1) := by decide +kernel
set_option maxRecDepth 20000 in
theorem dX7_share_53 : decode cX7_share 53 = .ok (.getfield 64, 3) := by decide +kernel
set_option maxRecDepth 20000 in
theorem dX7_share_56 : decode cX7_share 56 = .ok (.getfield 240, 3) := by decide +kernel
set_option maxRecDepth 20000 in
theorem dX7_share_59 : decode cX7_share 59 = .ok (.invokevirtual 181, 3) := by decide +kernel
set_option maxRecDepth 20000 in
theorem dX7_share_62 : decode cX7_share 62 = .ok (.iconst 1, 1) := by decide +kernel
set_option maxRecDepth 20000 in
theorem dX7_share_63 : decode cX7_share 63 = .ok (.ireturn, 1) := by decide +kernel
def f_X7_share (N : Nat) (c_board_askers : Int32) (c_board_places : Int32) (c_board_likes : Nat → Int32) (c_board_seats : Nat → Int32) (c_above : Int64) (c_below : Int64) (c_eating_whole : Int64) (c_eating_time : Int64) (c_eating_eaten : Nat → Int64) (c_eating_eaters : Nat → Int32) (c_eating_eatsAt : Nat → Int32) (c_eating_rest : Nat → Int64) (a1 : Int32) (a2 : Int32) : Option (Int32 × Int64 × Int64 × Int64 × Int64 × (Nat → Int64) × (Nat → Int32) × (Nat → Int32) × (Nat → Int64)) :=
  (f_X0_isAsker N c_board_askers a1).bind fun r1 =>
  (if r1 = 0 then
    some ((-2 : Int32), c_above, c_below, c_eating_whole, c_eating_time, c_eating_eaten, c_eating_eaters, c_eating_eatsAt, c_eating_rest)
  else
    (f_X0_isPlace N c_board_places a2).bind fun r4 =>
    (if r4 = 0 then
      some ((-2 : Int32), c_above, c_below, c_eating_whole, c_eating_time, c_eating_eaten, c_eating_eaters, c_eating_eatsAt, c_eating_rest)
    else
      (f_X1_run N c_board_askers c_board_places c_board_likes c_board_seats c_eating_whole c_eating_time c_eating_eaten c_eating_eaters c_eating_eatsAt c_eating_rest).bind fun (o7, o8, o9, o10, o11, o12) =>
      (f_X1_eatenBy N o9 a1 a2).bind fun r14 =>
      (if r14 = 0 then
        some (0, c_above, c_below, o7, o8, o9, o10, o11, o12)
      else
        (f_X7_tellFraction N c_above c_below r14 o7).bind fun (o17, o18) =>
        some (1, o17, o18, o7, o8, o9, o10, o11, o12))))
set_option maxHeartbeats 4000000 in
set_option maxRecDepth 100000 in
theorem c_X7_share {N : Nat} {c_board_askers : Int32} {c_board_places : Int32} {c_board_likes : Nat → Int32} {c_board_seats : Nat → Int32} {c_above : Int64} {c_below : Int64} {c_eating_whole : Int64} {c_eating_time : Int64} {c_eating_eaten : Nat → Int64} {c_eating_eaters : Nat → Int32} {c_eating_eatsAt : Nat → Int32} {c_eating_rest : Nat → Int64} {u_board_age : Int32} {a1 : Int32} {a2 : Int32} {res : Int32 × Int64 × Int64 × Int64 × Int64 × (Nat → Int64) × (Nat → Int32) × (Nat → Int32) × (Nat → Int64)} (hf : f_X7_share N c_board_askers c_board_places c_board_likes c_board_seats c_above c_below c_eating_whole c_eating_time c_eating_eaten c_eating_eaters c_eating_eatsAt c_eating_rest a1 a2 = some res) : Con mu_X7_share [.ref 0, .int a1, .int a2] (w_X7_share c_above c_below c_board_askers c_board_places c_eating_whole c_eating_time c_board_likes c_board_seats c_eating_eaten c_eating_eaters c_eating_eatsAt c_eating_rest u_board_age) (some (.int res.1)) (w_X7_share res.2.1 res.2.2.1 c_board_askers c_board_places res.2.2.2.1 res.2.2.2.2.1 c_board_likes c_board_seats res.2.2.2.2.2.1 res.2.2.2.2.2.2.1 res.2.2.2.2.2.2.2.1 res.2.2.2.2.2.2.2.2 u_board_age) := by
  refine Con.mk (show plainName RX7 = true by decide +kernel) (leb rfl) (fun κ ω A ad => ?_)
  change GG mu_X7_share κ ω A (QR κ ω A ad (some (.int res.1)) (w_X7_share res.2.1 res.2.2.1 c_board_askers c_board_places res.2.2.2.1 res.2.2.2.2.1 c_board_likes c_board_seats res.2.2.2.2.2.1 res.2.2.2.2.2.2.1 res.2.2.2.2.2.2.2.1 res.2.2.2.2.2.2.2.2 u_board_age)) ad 0 0 0 (w_X7_share c_above c_below c_board_askers c_board_places c_eating_whole c_eating_time c_board_likes c_board_seats c_eating_eaten c_eating_eaters c_eating_eatsAt c_eating_rest u_board_age) [some (.ref 0), some (.int a1), some (.int a2), none, none] []
  refine G_aload_n dX7_share_0 rfl rfl ?_
  refine G_get (v := .ref 1) F_X7_10 dX7_share_1 rfl rfl ?_
  refine G_iload_n dX7_share_4 rfl rfl ?_
  obtain ⟨r1, hc2, hf⟩ := ob hf
  refine G_callV (μ2 := mu_X0_isAsker) (As := [.int a1]) (w2 := (w_X7_share c_above c_below c_board_askers c_board_places c_eating_whole c_eating_time c_board_likes c_board_seats c_eating_eaten c_eating_eaters c_eating_eatsAt c_eating_rest u_board_age)) (wc := (w_X0_isAsker c_board_askers c_board_places u_board_age)) (wc2 := (w_X0_isAsker c_board_askers c_board_places u_board_age)) (rest := []) (rv := [.int r1]) [1] [4, 1008, 3, 1009] [0, 2, 3, 4, 5, 6, 7, 8] [0, 8, 1, 2, 3, 4, 5, 6, 7] (c_X0_isAsker hc2) cw_X0_isAsker m_X7_109 dX7_share_5 rfl ⟨leb rfl, leb rfl⟩ ⟨rfl, rfl⟩ rfl ⟨_, rfl, rfl⟩ (Fit.mk rfl rfl rfl) rfl (leb rfl) (ROsub.nil rfl rfl) rfl ?_
  change GG _ _ _ _ _ _ _ _ _ (w_X7_share c_above c_below c_board_askers c_board_places c_eating_whole c_eating_time c_board_likes c_board_seats c_eating_eaten c_eating_eaters c_eating_eatsAt c_eating_rest u_board_age) [some (.ref 0), some (.int a1), some (.int a2), none, none] [.int r1]
  refine G_if_eq 22 dX7_share_8 (by decide) (fun h3 => ?_) (fun h3 => ?_)
  · replace hf := ob_t h3 hf
    refine G_bipush (-2 : Int32) dX7_share_22 (by decide) ?_
    obtain rfl := os hf
    exact G_ireturn dX7_share_24 rfl
  · replace hf := ob_f h3 hf
    refine G_aload_n dX7_share_11 rfl rfl ?_
    refine G_get (v := .ref 1) F_X7_10 dX7_share_12 rfl rfl ?_
    refine G_iload_n dX7_share_15 rfl rfl ?_
    obtain ⟨r4, hc5, hf⟩ := ob hf
    refine G_callV (μ2 := mu_X0_isPlace) (As := [.int a2]) (w2 := (w_X7_share c_above c_below c_board_askers c_board_places c_eating_whole c_eating_time c_board_likes c_board_seats c_eating_eaten c_eating_eaters c_eating_eatsAt c_eating_rest u_board_age)) (wc := (w_X0_isPlace c_board_places c_board_askers u_board_age)) (wc2 := (w_X0_isPlace c_board_places c_board_askers u_board_age)) (rest := []) (rv := [.int r4]) [1] [4, 1008, 3, 1009] [0, 2, 3, 4, 5, 6, 7, 8] [0, 8, 1, 2, 3, 4, 5, 6, 7] (c_X0_isPlace hc5) cw_X0_isPlace m_X7_98 dX7_share_16 rfl ⟨leb rfl, leb rfl⟩ ⟨rfl, rfl⟩ rfl ⟨_, rfl, rfl⟩ (Fit.mk rfl rfl rfl) rfl (leb rfl) (ROsub.nil rfl rfl) rfl ?_
    change GG _ _ _ _ _ _ _ _ _ (w_X7_share c_above c_below c_board_askers c_board_places c_eating_whole c_eating_time c_board_likes c_board_seats c_eating_eaten c_eating_eaters c_eating_eatsAt c_eating_rest u_board_age) [some (.ref 0), some (.int a1), some (.int a2), none, none] [.int r4]
    refine G_if_ne 25 dX7_share_19 (by decide) (fun h6 => ?_) (fun h6 => ?_)
    · replace hf := ob_f h6 hf
      refine G_aload_n dX7_share_25 rfl rfl ?_
      refine G_get (v := .ref 2) F_X7_64 dX7_share_26 rfl rfl ?_
      obtain ⟨⟨o7, o8, o9, o10, o11, o12⟩, hc13, hf⟩ := ob hf
      refine G_callV (μ2 := mu_X1_run) (As := []) (w2 := (w_X7_share c_above c_below c_board_askers c_board_places o7 o8 c_board_likes c_board_seats o9 o10 o11 o12 u_board_age)) (wc := (w_X1_run c_eating_whole c_eating_time c_board_askers c_board_places c_eating_eaten c_eating_eaters c_eating_eatsAt c_eating_rest c_board_likes c_board_seats u_board_age)) (wc2 := (w_X1_run o7 o8 c_board_askers c_board_places o9 o10 o11 o12 c_board_likes c_board_seats u_board_age)) (rest := []) (rv := []) [2, 1, 5, 6, 7, 8, 3, 4] [1008, 1009] [0] [0, 2, 1, 7, 8, 3, 4, 5, 6] (c_X1_run hc13) cw_X1_run m_X7_234 dX7_share_29 rfl ⟨leb rfl, leb rfl⟩ ⟨rfl, rfl⟩ rfl ⟨_, rfl, rfl⟩ (Fit.mk rfl rfl rfl) rfl (leb rfl) (ROsub.nil rfl rfl) rfl ?_
      change GG _ _ _ _ _ _ _ _ _ (w_X7_share c_above c_below c_board_askers c_board_places o7 o8 c_board_likes c_board_seats o9 o10 o11 o12 u_board_age) [some (.ref 0), some (.int a1), some (.int a2), none, none] []
      refine G_aload_n dX7_share_32 rfl rfl ?_
      refine G_get (v := .ref 2) F_X7_64 dX7_share_33 rfl rfl ?_
      refine G_iload_n dX7_share_36 rfl rfl ?_
      refine G_iload_n dX7_share_37 rfl rfl ?_
      obtain ⟨r14, hc15, hf⟩ := ob hf
      refine G_callV (μ2 := mu_X1_eatenBy) (As := [.int a1, .int a2]) (w2 := (w_X7_share c_above c_below c_board_askers c_board_places o7 o8 c_board_likes c_board_seats o9 o10 o11 o12 u_board_age)) (wc := (w_X1_eatenBy o9 o7 o8)) (wc2 := (w_X1_eatenBy o9 o7 o8)) (rest := []) (rv := [.long r14]) [2, 5] [1, 8, 7, 6] [0, 1, 3, 4, 6, 7, 8] [0, 1, 7, 2, 3, 8, 4, 5, 6] (c_X1_eatenBy hc15) cw_X1_eatenBy m_X7_236 dX7_share_38 rfl ⟨leb rfl, leb rfl⟩ ⟨rfl, rfl⟩ rfl ⟨_, rfl, rfl⟩ (Fit.mk rfl rfl rfl) rfl (leb rfl) (ROsub.nil rfl rfl) rfl ?_
      change GG _ _ _ _ _ _ _ _ _ (w_X7_share c_above c_below c_board_askers c_board_places o7 o8 c_board_likes c_board_seats o9 o10 o11 o12 u_board_age) [some (.ref 0), some (.int a1), some (.int a2), none, none] [.long r14]
      refine G_lstore_n dX7_share_41 rfl (ltb rfl) ?_
      change GG _ _ _ _ _ _ _ _ _ _ [some (.ref 0), some (.int a1), some (.int a2), some (.long r14), none] _
      refine G_lload_n dX7_share_42 rfl rfl ?_
      refine G_lconst 0 dX7_share_43 (by decide) ?_
      refine G_lcmp_ne 50 dX7_share_44 dX7_share_45 (by decide) (fun h16 => ?_) (fun h16 => ?_)
      · replace hf := ob_f h16 hf
        refine G_aload_n dX7_share_50 rfl rfl ?_
        refine G_lload_n dX7_share_51 rfl rfl ?_
        refine G_aload_n dX7_share_52 rfl rfl ?_
        refine G_get (v := .ref 2) F_X7_64 dX7_share_53 rfl rfl ?_
        refine G_get (v := .long o7) F_X7_240 dX7_share_56 rfl rfl ?_
        obtain ⟨⟨o17, o18⟩, hc19, hf⟩ := ob hf
        refine G_callV (μ2 := mu_X7_tellFraction) (As := [.long r14, .long o7]) (w2 := (w_X7_share o17 o18 c_board_askers c_board_places o7 o8 c_board_likes c_board_seats o9 o10 o11 o12 u_board_age)) (wc := (w_X7_tellFraction c_above c_below)) (wc2 := (w_X7_tellFraction o17 o18)) (rest := []) (rv := []) [0] [1, 1000, 1001, 1002, 1003, 1004, 1005, 1006, 2, 1007] [1, 2, 3, 4, 5, 6, 7, 8] [8, 0, 1, 2, 3, 4, 5, 6, 7] (c_X7_tellFraction hc19) cw_X7_tellFraction m_X7_181 dX7_share_59 rfl ⟨leb rfl, leb rfl⟩ ⟨rfl, rfl⟩ rfl ⟨_, rfl, rfl⟩ (Fit.mk rfl rfl rfl) rfl (leb rfl) (ROsub.nil rfl rfl) rfl ?_
        change GG _ _ _ _ _ _ _ _ _ (w_X7_share o17 o18 c_board_askers c_board_places o7 o8 c_board_likes c_board_seats o9 o10 o11 o12 u_board_age) [some (.ref 0), some (.int a1), some (.int a2), some (.long r14), none] []
        refine G_iconst 1 dX7_share_62 (by decide) ?_
        obtain rfl := os hf
        exact G_ireturn dX7_share_63 rfl
      · replace hf := ob_t h16 hf
        refine G_iconst 0 dX7_share_48 (by decide) ?_
        obtain rfl := os hf
        exact G_ireturn dX7_share_49 rfl
    · replace hf := ob_t h6 hf
      refine G_bipush (-2 : Int32) dX7_share_22 (by decide) ?_
      obtain rfl := os hf
      exact G_ireturn dX7_share_24 rfl
set_option maxRecDepth 20000 in
theorem dX7_envies_0 : decode cX7_envies 0 = .ok (.aload_n 0, 1) := by decide +kernel
set_option maxRecDepth 20000 in
theorem dX7_envies_1 : decode cX7_envies 1 = .ok (.getfield 10, 3) := by decide +kernel
set_option maxRecDepth 20000 in
theorem dX7_envies_4 : decode cX7_envies 4 = .ok (.iload_n 1, 1) := by decide +kernel
set_option maxRecDepth 20000 in
theorem dX7_envies_5 : decode cX7_envies 5 = .ok (.invokevirtual 109, 3) := by decide +kernel
set_option maxRecDepth 20000 in
theorem dX7_envies_8 : decode cX7_envies 8 = .ok (.ifCond .eq 19, 3) := by decide +kernel
set_option maxRecDepth 20000 in
theorem dX7_envies_11 : decode cX7_envies 11 = .ok (.aload_n 0, 1) := by decide +kernel
set_option maxRecDepth 20000 in
theorem dX7_envies_12 : decode cX7_envies 12 = .ok (.getfield 10, 3) := by decide +kernel
set_option maxRecDepth 20000 in
theorem dX7_envies_15 : decode cX7_envies 15 = .ok (.iload_n 2, 1) := by decide +kernel
set_option maxRecDepth 20000 in
theorem dX7_envies_16 : decode cX7_envies 16 = .ok (.invokevirtual 109, 3) := by decide +kernel
set_option maxRecDepth 20000 in
theorem dX7_envies_19 : decode cX7_envies 19 = .ok (.ifCond .eq 8, 3) := by decide +kernel
set_option maxRecDepth 20000 in
theorem dX7_envies_22 : decode cX7_envies 22 = .ok (.iload_n 1, 1) := by decide +kernel
set_option maxRecDepth 20000 in
theorem dX7_envies_23 : decode cX7_envies 23 = .ok (.iload_n 2, 1) := by decide +kernel
set_option maxRecDepth 20000 in
theorem dX7_envies_24 : decode cX7_envies 24 = .ok (.if_icmp .ne 6, 3) := by decide +kernel
set_option maxRecDepth 20000 in
theorem dX7_envies_27 : decode cX7_envies 27 = .ok (.bipush (-2), 2) := by decide +kernel
set_option maxRecDepth 20000 in
theorem dX7_envies_29 : decode cX7_envies 29 = .ok (.ireturn, 1) := by decide +kernel
set_option maxRecDepth 20000 in
theorem dX7_envies_30 : decode cX7_envies 30 = .ok (.aload_n 0, 1) := by decide +kernel
set_option maxRecDepth 20000 in
theorem dX7_envies_31 : decode cX7_envies 31 = .ok (.getfield 64, 3) := by decide +kernel
set_option maxRecDepth 20000 in
theorem dX7_envies_34 : decode cX7_envies 34 = .ok (.invokevirtual 234, 3) := by decide +kernel
set_option maxRecDepth 20000 in
theorem dX7_envies_37 : decode cX7_envies 37 = .ok (.iconst 1, 1) := by decide +kernel
set_option maxRecDepth 20000 in
theorem dX7_envies_38 : decode cX7_envies 38 = .ok (.istore_n 3, 1) := by decide +kernel
set_option maxRecDepth 20000 in
theorem dX7_envies_39 : decode cX7_envies 39 = .ok (.iload_n 3, 1) := by decide +kernel
set_option maxRecDepth 20000 in
theorem dX7_envies_40 : decode cX7_envies 40 = .ok (.bipush 6, 2) := by decide +kernel
set_option maxRecDepth 20000 in
theorem dX7_envies_42 : decode cX7_envies 42 = .ok (.if_icmp .gt 35, 3) := by decide +kernel
set_option maxRecDepth 20000 in
theorem dX7_envies_45 : decode cX7_envies 45 = .ok (.aload_n 0, 1) := by decide +kernel
set_option maxRecDepth 20000 in
theorem dX7_envies_46 : decode cX7_envies 46 = .ok (.getfield 64, 3) := by decide +kernel
set_option maxRecDepth 20000 in
theorem dX7_envies_49 : decode cX7_envies 49 = .ok (.iload_n 1, 1) := by decide +kernel
set_option maxRecDepth 20000 in
theorem dX7_envies_50 : decode cX7_envies 50 = .ok (.iload_n 3, 1) := by decide +kernel
set_option maxRecDepth 20000 in
theorem dX7_envies_51 : decode cX7_envies 51 = .ok (.iload_n 1, 1) := by decide +kernel
set_option maxRecDepth 20000 in
theorem dX7_envies_52 : decode cX7_envies 52 = .ok (.invokevirtual 243, 3) := by decide +kernel
set_option maxRecDepth 20000 in
theorem dX7_envies_55 : decode cX7_envies 55 = .ok (.aload_n 0, 1) := by decide +kernel
set_option maxRecDepth 20000 in
theorem dX7_envies_56 : decode cX7_envies 56 = .ok (.getfield 64, 3) := by decide +kernel
set_option maxRecDepth 20000 in
theorem dX7_envies_59 : decode cX7_envies 59 = .ok (.iload_n 1, 1) := by decide +kernel
set_option maxRecDepth 20000 in
theorem dX7_envies_60 : decode cX7_envies 60 = .ok (.iload_n 3, 1) := by decide +kernel
set_option maxRecDepth 20000 in
theorem dX7_envies_61 : decode cX7_envies 61 = .ok (.iload_n 2, 1) := by decide +kernel
set_option maxRecDepth 20000 in
theorem dX7_envies_62 : decode cX7_envies 62 = .ok (.invokevirtual 243, 3) := by decide +kernel
set_option maxRecDepth 20000 in
theorem dX7_envies_65 : decode cX7_envies 65 = .ok (.lcmp, 1) := by decide +kernel
set_option maxRecDepth 20000 in
theorem dX7_envies_66 : decode cX7_envies 66 = .ok (.ifCond .ge 5, 3) := by decide +kernel
set_option maxRecDepth 20000 in
theorem dX7_envies_69 : decode cX7_envies 69 = .ok (.iconst 1, 1) := by decide +kernel
set_option maxRecDepth 20000 in
theorem dX7_envies_70 : decode cX7_envies 70 = .ok (.ireturn, 1) := by decide +kernel
set_option maxRecDepth 20000 in
theorem dX7_envies_71 : decode cX7_envies 71 = .ok (.iinc 3 1, 3) := by decide +kernel
set_option maxRecDepth 20000 in
theorem dX7_envies_74 : decode cX7_envies 74 = .ok (.goto (-35), 3) := by decide +kernel
set_option maxRecDepth 20000 in
theorem dX7_envies_77 : decode cX7_envies 77 = .ok (.iconst 0, 1) := by decide +kernel
set_option maxRecDepth 20000 in
theorem dX7_envies_78 : decode cX7_envies 78 = .ok (.ireturn, 1) := by decide +kernel
def f_X7_envies_39 (N : Nat) (c_board_askers : Int32) (c_board_places : Int32) (c_board_likes : Nat → Int32) (c_board_seats : Nat → Int32) (c_board_wishes : Nat → Int32) : Nat → Int64 → Int64 → (Nat → Int64) → (Nat → Int32) → (Nat → Int32) → (Nat → Int64) → Int32 → Int32 → Int32 → Option (Int32 × Int64 × Int64 × (Nat → Int64) × (Nat → Int32) × (Nat → Int32) × (Nat → Int64))
  | 0, _, _, _, _, _, _, _, _, _ => none
  | n + 1, c_eating_whole, c_eating_time, c_eating_eaten, c_eating_eaters, c_eating_eatsAt, c_eating_rest, v1, v2, v3 =>
    (if 6 < v3 then
      some (0, c_eating_whole, c_eating_time, c_eating_eaten, c_eating_eaters, c_eating_eatsAt, c_eating_rest)
    else
      (f_X1_eatenUpTo N c_board_places c_eating_eaten c_board_wishes v1 v3 v1).bind fun r2 =>
      (f_X1_eatenUpTo N c_board_places c_eating_eaten c_board_wishes v1 v3 v2).bind fun r4 =>
      (if r4 ≤ r2 then
        f_X7_envies_39 N c_board_askers c_board_places c_board_likes c_board_seats c_board_wishes n c_eating_whole c_eating_time c_eating_eaten c_eating_eaters c_eating_eatsAt c_eating_rest v1 v2 (v3 + 1)
      else
        some (1, c_eating_whole, c_eating_time, c_eating_eaten, c_eating_eaters, c_eating_eatsAt, c_eating_rest)))
set_option maxHeartbeats 4000000 in
set_option maxRecDepth 100000 in
theorem g_X7_envies_39 {κ : KC} {ω : KW} {A : Nat → Prop} {ad : Nat → Nat} {u_above : Int64} {u_below : Int64} {u_board_age : Int32} {N : Nat} {c_board_askers : Int32} {c_board_places : Int32} {c_board_likes : Nat → Int32} {c_board_seats : Nat → Int32} {c_board_wishes : Nat → Int32}  {res : Int32 × Int64 × Int64 × (Nat → Int64) × (Nat → Int32) × (Nat → Int32) × (Nat → Int64)} : ∀ (n : Nat) {c_eating_whole : Int64} {c_eating_time : Int64} {c_eating_eaten : Nat → Int64} {c_eating_eaters : Nat → Int32} {c_eating_eatsAt : Nat → Int32} {c_eating_rest : Nat → Int64} {v1 : Int32} {v2 : Int32} {v3 : Int32}, f_X7_envies_39 N c_board_askers c_board_places c_board_likes c_board_seats c_board_wishes n c_eating_whole c_eating_time c_eating_eaten c_eating_eaters c_eating_eatsAt c_eating_rest v1 v2 v3 = some res → GG mu_X7_envies κ ω A (QR κ ω A ad (some (.int res.1)) (w_X7_envies c_board_askers c_board_places res.2.1 res.2.2.1 c_board_likes c_board_seats c_board_wishes res.2.2.2.1 res.2.2.2.2.1 res.2.2.2.2.2.1 res.2.2.2.2.2.2 u_above u_below u_board_age)) ad 0 0 39 (w_X7_envies c_board_askers c_board_places c_eating_whole c_eating_time c_board_likes c_board_seats c_board_wishes c_eating_eaten c_eating_eaters c_eating_eatsAt c_eating_rest u_above u_below u_board_age) [some (.ref 0), some (.int v1), some (.int v2), some (.int v3)] [] := by
  intro n
  induction n with
  | zero => intro c_eating_whole c_eating_time c_eating_eaten c_eating_eaters c_eating_eatsAt c_eating_rest v1 v2 v3 hf; exact ob_0 hf
  | succ n ih =>
    intro c_eating_whole c_eating_time c_eating_eaten c_eating_eaters c_eating_eatsAt c_eating_rest v1 v2 v3 hf
    refine G_iload_n dX7_envies_39 rfl rfl ?_
    refine G_bipush 6 dX7_envies_40 (by decide) ?_
    refine G_icmp_gt 77 dX7_envies_42 (by decide) (fun h1 => ?_) (fun h1 => ?_)
    · replace hf := ob_t h1 hf
      refine G_iconst 0 dX7_envies_77 (by decide) ?_
      obtain rfl := os hf
      exact G_ireturn dX7_envies_78 rfl
    · replace hf := ob_f h1 hf
      refine G_aload_n dX7_envies_45 rfl rfl ?_
      refine G_get (v := .ref 2) F_X7_64 dX7_envies_46 rfl rfl ?_
      refine G_iload_n dX7_envies_49 rfl rfl ?_
      refine G_iload_n dX7_envies_50 rfl rfl ?_
      refine G_iload_n dX7_envies_51 rfl rfl ?_
      obtain ⟨r2, hc3, hf⟩ := ob hf
      refine G_callV (μ2 := mu_X1_eatenUpTo) (As := [.int v1, .int v3, .int v1]) (w2 := (w_X7_envies c_board_askers c_board_places c_eating_whole c_eating_time c_board_likes c_board_seats c_board_wishes c_eating_eaten c_eating_eaters c_eating_eatsAt c_eating_rest u_above u_below u_board_age)) (wc := (w_X1_eatenUpTo c_board_places c_eating_eaten c_board_wishes c_eating_whole c_eating_time c_board_askers u_board_age)) (wc2 := (w_X1_eatenUpTo c_board_places c_eating_eaten c_board_wishes c_eating_whole c_eating_time c_board_askers u_board_age)) (rest := []) (rv := [.long r2]) [2, 1, 6, 5] [9, 8, 7, 4, 3, 1008] [0, 3, 4, 7, 8, 9] [0, 7, 6, 1, 2, 9, 8, 3, 4, 5] (c_X1_eatenUpTo hc3) cw_X1_eatenUpTo m_X7_243 dX7_envies_52 rfl ⟨leb rfl, leb rfl⟩ ⟨rfl, rfl⟩ rfl ⟨_, rfl, rfl⟩ (Fit.mk rfl rfl rfl) rfl (leb rfl) (ROsub.nil rfl rfl) rfl ?_
      change GG _ _ _ _ _ _ _ _ _ (w_X7_envies c_board_askers c_board_places c_eating_whole c_eating_time c_board_likes c_board_seats c_board_wishes c_eating_eaten c_eating_eaters c_eating_eatsAt c_eating_rest u_above u_below u_board_age) [some (.ref 0), some (.int v1), some (.int v2), some (.int v3)] [.long r2]
      refine G_aload_n dX7_envies_55 rfl rfl ?_
      refine G_get (v := .ref 2) F_X7_64 dX7_envies_56 rfl rfl ?_
      refine G_iload_n dX7_envies_59 rfl rfl ?_
      refine G_iload_n dX7_envies_60 rfl rfl ?_
      refine G_iload_n dX7_envies_61 rfl rfl ?_
      obtain ⟨r4, hc5, hf⟩ := ob hf
      refine G_callV (μ2 := mu_X1_eatenUpTo) (As := [.int v1, .int v3, .int v2]) (w2 := (w_X7_envies c_board_askers c_board_places c_eating_whole c_eating_time c_board_likes c_board_seats c_board_wishes c_eating_eaten c_eating_eaters c_eating_eatsAt c_eating_rest u_above u_below u_board_age)) (wc := (w_X1_eatenUpTo c_board_places c_eating_eaten c_board_wishes c_eating_whole c_eating_time c_board_askers u_board_age)) (wc2 := (w_X1_eatenUpTo c_board_places c_eating_eaten c_board_wishes c_eating_whole c_eating_time c_board_askers u_board_age)) (rest := [.long r2]) (rv := [.long r4]) [2, 1, 6, 5] [9, 8, 7, 4, 3, 1008] [0, 3, 4, 7, 8, 9] [0, 7, 6, 1, 2, 9, 8, 3, 4, 5] (c_X1_eatenUpTo hc5) cw_X1_eatenUpTo m_X7_243 dX7_envies_62 rfl ⟨leb rfl, leb rfl⟩ ⟨rfl, rfl⟩ rfl ⟨_, rfl, rfl⟩ (Fit.mk rfl rfl rfl) rfl (leb rfl) (ROsub.nil rfl rfl) rfl ?_
      change GG _ _ _ _ _ _ _ _ _ (w_X7_envies c_board_askers c_board_places c_eating_whole c_eating_time c_board_likes c_board_seats c_board_wishes c_eating_eaten c_eating_eaters c_eating_eatsAt c_eating_rest u_above u_below u_board_age) [some (.ref 0), some (.int v1), some (.int v2), some (.int v3)] [.long r4, .long r2]
      refine G_lcmp_ge 71 dX7_envies_65 dX7_envies_66 (by decide) (fun h6 => ?_) (fun h6 => ?_)
      · replace hf := ob_t h6 hf
        refine G_iinc 1 dX7_envies_71 (by decide) rfl (ltb rfl) ?_
        change GG _ _ _ _ _ _ _ _ _ _ [some (.ref 0), some (.int v1), some (.int v2), some (.int (v3 + 1))] _
        refine G_goto 39 dX7_envies_74 (by decide) ?_
        exact ih hf
      · replace hf := ob_f h6 hf
        refine G_iconst 1 dX7_envies_69 (by decide) ?_
        obtain rfl := os hf
        exact G_ireturn dX7_envies_70 rfl
def f_X7_envies (N : Nat) (c_board_askers : Int32) (c_board_places : Int32) (c_board_likes : Nat → Int32) (c_board_seats : Nat → Int32) (c_board_wishes : Nat → Int32) (c_eating_whole : Int64) (c_eating_time : Int64) (c_eating_eaten : Nat → Int64) (c_eating_eaters : Nat → Int32) (c_eating_eatsAt : Nat → Int32) (c_eating_rest : Nat → Int64) (a1 : Int32) (a2 : Int32) : Option (Int32 × Int64 × Int64 × (Nat → Int64) × (Nat → Int32) × (Nat → Int32) × (Nat → Int64)) :=
  (f_X0_isAsker N c_board_askers a1).bind fun r1 =>
  (if r1 = 0 then
    some ((-2 : Int32), c_eating_whole, c_eating_time, c_eating_eaten, c_eating_eaters, c_eating_eatsAt, c_eating_rest)
  else
    (f_X0_isAsker N c_board_askers a2).bind fun r4 =>
    (if r4 = 0 then
      some ((-2 : Int32), c_eating_whole, c_eating_time, c_eating_eaten, c_eating_eaters, c_eating_eatsAt, c_eating_rest)
    else
      (if a1 = a2 then
        some ((-2 : Int32), c_eating_whole, c_eating_time, c_eating_eaten, c_eating_eaters, c_eating_eatsAt, c_eating_rest)
      else
        (f_X1_run N c_board_askers c_board_places c_board_likes c_board_seats c_eating_whole c_eating_time c_eating_eaten c_eating_eaters c_eating_eatsAt c_eating_rest).bind fun (o8, o9, o10, o11, o12, o13) =>
        f_X7_envies_39 N c_board_askers c_board_places c_board_likes c_board_seats c_board_wishes N o8 o9 o10 o11 o12 o13 a1 a2 1)))
set_option maxHeartbeats 4000000 in
set_option maxRecDepth 100000 in
theorem c_X7_envies {N : Nat} {c_board_askers : Int32} {c_board_places : Int32} {c_board_likes : Nat → Int32} {c_board_seats : Nat → Int32} {c_board_wishes : Nat → Int32} {c_eating_whole : Int64} {c_eating_time : Int64} {c_eating_eaten : Nat → Int64} {c_eating_eaters : Nat → Int32} {c_eating_eatsAt : Nat → Int32} {c_eating_rest : Nat → Int64} {u_above : Int64} {u_below : Int64} {u_board_age : Int32} {a1 : Int32} {a2 : Int32} {res : Int32 × Int64 × Int64 × (Nat → Int64) × (Nat → Int32) × (Nat → Int32) × (Nat → Int64)} (hf : f_X7_envies N c_board_askers c_board_places c_board_likes c_board_seats c_board_wishes c_eating_whole c_eating_time c_eating_eaten c_eating_eaters c_eating_eatsAt c_eating_rest a1 a2 = some res) : Con mu_X7_envies [.ref 0, .int a1, .int a2] (w_X7_envies c_board_askers c_board_places c_eating_whole c_eating_time c_board_likes c_board_seats c_board_wishes c_eating_eaten c_eating_eaters c_eating_eatsAt c_eating_rest u_above u_below u_board_age) (some (.int res.1)) (w_X7_envies c_board_askers c_board_places res.2.1 res.2.2.1 c_board_likes c_board_seats c_board_wishes res.2.2.2.1 res.2.2.2.2.1 res.2.2.2.2.2.1 res.2.2.2.2.2.2 u_above u_below u_board_age) := by
  refine Con.mk (show plainName RX7 = true by decide +kernel) (leb rfl) (fun κ ω A ad => ?_)
  change GG mu_X7_envies κ ω A (QR κ ω A ad (some (.int res.1)) (w_X7_envies c_board_askers c_board_places res.2.1 res.2.2.1 c_board_likes c_board_seats c_board_wishes res.2.2.2.1 res.2.2.2.2.1 res.2.2.2.2.2.1 res.2.2.2.2.2.2 u_above u_below u_board_age)) ad 0 0 0 (w_X7_envies c_board_askers c_board_places c_eating_whole c_eating_time c_board_likes c_board_seats c_board_wishes c_eating_eaten c_eating_eaters c_eating_eatsAt c_eating_rest u_above u_below u_board_age) [some (.ref 0), some (.int a1), some (.int a2), none] []
  refine G_aload_n dX7_envies_0 rfl rfl ?_
  refine G_get (v := .ref 1) F_X7_10 dX7_envies_1 rfl rfl ?_
  refine G_iload_n dX7_envies_4 rfl rfl ?_
  obtain ⟨r1, hc2, hf⟩ := ob hf
  refine G_callV (μ2 := mu_X0_isAsker) (As := [.int a1]) (w2 := (w_X7_envies c_board_askers c_board_places c_eating_whole c_eating_time c_board_likes c_board_seats c_board_wishes c_eating_eaten c_eating_eaters c_eating_eatsAt c_eating_rest u_above u_below u_board_age)) (wc := (w_X0_isAsker c_board_askers c_board_places u_board_age)) (wc2 := (w_X0_isAsker c_board_askers c_board_places u_board_age)) (rest := []) (rv := [.int r1]) [1] [4, 5, 3, 1008] [0, 2, 3, 4, 5, 6, 7, 8, 9] [0, 9, 1, 2, 3, 4, 5, 6, 7, 8] (c_X0_isAsker hc2) cw_X0_isAsker m_X7_109 dX7_envies_5 rfl ⟨leb rfl, leb rfl⟩ ⟨rfl, rfl⟩ rfl ⟨_, rfl, rfl⟩ (Fit.mk rfl rfl rfl) rfl (leb rfl) (ROsub.nil rfl rfl) rfl ?_
  change GG _ _ _ _ _ _ _ _ _ (w_X7_envies c_board_askers c_board_places c_eating_whole c_eating_time c_board_likes c_board_seats c_board_wishes c_eating_eaten c_eating_eaters c_eating_eatsAt c_eating_rest u_above u_below u_board_age) [some (.ref 0), some (.int a1), some (.int a2), none] [.int r1]
  refine G_if_eq 27 dX7_envies_8 (by decide) (fun h3 => ?_) (fun h3 => ?_)
  · replace hf := ob_t h3 hf
    refine G_bipush (-2 : Int32) dX7_envies_27 (by decide) ?_
    obtain rfl := os hf
    exact G_ireturn dX7_envies_29 rfl
  · replace hf := ob_f h3 hf
    refine G_aload_n dX7_envies_11 rfl rfl ?_
    refine G_get (v := .ref 1) F_X7_10 dX7_envies_12 rfl rfl ?_
    refine G_iload_n dX7_envies_15 rfl rfl ?_
    obtain ⟨r4, hc5, hf⟩ := ob hf
    refine G_callV (μ2 := mu_X0_isAsker) (As := [.int a2]) (w2 := (w_X7_envies c_board_askers c_board_places c_eating_whole c_eating_time c_board_likes c_board_seats c_board_wishes c_eating_eaten c_eating_eaters c_eating_eatsAt c_eating_rest u_above u_below u_board_age)) (wc := (w_X0_isAsker c_board_askers c_board_places u_board_age)) (wc2 := (w_X0_isAsker c_board_askers c_board_places u_board_age)) (rest := []) (rv := [.int r4]) [1] [4, 5, 3, 1008] [0, 2, 3, 4, 5, 6, 7, 8, 9] [0, 9, 1, 2, 3, 4, 5, 6, 7, 8] (c_X0_isAsker hc5) cw_X0_isAsker m_X7_109 dX7_envies_16 rfl ⟨leb rfl, leb rfl⟩ ⟨rfl, rfl⟩ rfl ⟨_, rfl, rfl⟩ (Fit.mk rfl rfl rfl) rfl (leb rfl) (ROsub.nil rfl rfl) rfl ?_
    change GG _ _ _ _ _ _ _ _ _ (w_X7_envies c_board_askers c_board_places c_eating_whole c_eating_time c_board_likes c_board_seats c_board_wishes c_eating_eaten c_eating_eaters c_eating_eatsAt c_eating_rest u_above u_below u_board_age) [some (.ref 0), some (.int a1), some (.int a2), none] [.int r4]
    refine G_if_eq 27 dX7_envies_19 (by decide) (fun h6 => ?_) (fun h6 => ?_)
    · replace hf := ob_t h6 hf
      refine G_bipush (-2 : Int32) dX7_envies_27 (by decide) ?_
      obtain rfl := os hf
      exact G_ireturn dX7_envies_29 rfl
    · replace hf := ob_f h6 hf
      refine G_iload_n dX7_envies_22 rfl rfl ?_
      refine G_iload_n dX7_envies_23 rfl rfl ?_
      refine G_icmp_ne 30 dX7_envies_24 (by decide) (fun h7 => ?_) (fun h7 => ?_)
      · replace hf := ob_f h7 hf
        refine G_aload_n dX7_envies_30 rfl rfl ?_
        refine G_get (v := .ref 2) F_X7_64 dX7_envies_31 rfl rfl ?_
        obtain ⟨⟨o8, o9, o10, o11, o12, o13⟩, hc14, hf⟩ := ob hf
        refine G_callV (μ2 := mu_X1_run) (As := []) (w2 := (w_X7_envies c_board_askers c_board_places o8 o9 c_board_likes c_board_seats c_board_wishes o10 o11 o12 o13 u_above u_below u_board_age)) (wc := (w_X1_run c_eating_whole c_eating_time c_board_askers c_board_places c_eating_eaten c_eating_eaters c_eating_eatsAt c_eating_rest c_board_likes c_board_seats u_board_age)) (wc2 := (w_X1_run o8 o9 c_board_askers c_board_places o10 o11 o12 o13 c_board_likes c_board_seats u_board_age)) (rest := []) (rv := []) [2, 1, 6, 7, 8, 9, 3, 4] [5, 1008] [0, 5] [0, 3, 2, 8, 9, 1, 4, 5, 6, 7] (c_X1_run hc14) cw_X1_run m_X7_234 dX7_envies_34 rfl ⟨leb rfl, leb rfl⟩ ⟨rfl, rfl⟩ rfl ⟨_, rfl, rfl⟩ (Fit.mk rfl rfl rfl) rfl (leb rfl) (ROsub.nil rfl rfl) rfl ?_
        change GG _ _ _ _ _ _ _ _ _ (w_X7_envies c_board_askers c_board_places o8 o9 c_board_likes c_board_seats c_board_wishes o10 o11 o12 o13 u_above u_below u_board_age) [some (.ref 0), some (.int a1), some (.int a2), none] []
        refine G_iconst 1 dX7_envies_37 (by decide) ?_
        refine G_istore_n dX7_envies_38 rfl (ltb rfl) ?_
        change GG _ _ _ _ _ _ _ _ _ _ [some (.ref 0), some (.int a1), some (.int a2), some (.int 1)] _
        exact g_X7_envies_39 N hf
      · replace hf := ob_t h7 hf
        refine G_bipush (-2 : Int32) dX7_envies_27 (by decide) ?_
        obtain rfl := os hf
        exact G_ireturn dX7_envies_29 rfl
set_option maxRecDepth 20000 in
theorem dX7_count_0 : decode cX7_count 0 = .ok (.iload_n 1, 1) := by decide +kernel
set_option maxRecDepth 20000 in
theorem dX7_count_1 : decode cX7_count 1 = .ok (.tableswitch 63 0 3 #[31, 39, 47, 55], 31) := by decide +kernel
set_option maxRecDepth 20000 in
theorem dX7_count_32 : decode cX7_count 32 = .ok (.aload_n 0, 1) := by decide +kernel
set_option maxRecDepth 20000 in
theorem dX7_count_33 : decode cX7_count 33 = .ok (.getfield 10, 3) := by decide +kernel
set_option maxRecDepth 20000 in
theorem dX7_count_36 : decode cX7_count 36 = .ok (.getfield 79, 3) := by decide +kernel
set_option maxRecDepth 20000 in
theorem dX7_count_39 : decode cX7_count 39 = .ok (.ireturn, 1) := by decide +kernel
set_option maxRecDepth 20000 in
theorem dX7_count_40 : decode cX7_count 40 = .ok (.aload_n 0, 1) := by decide +kernel
set_option maxRecDepth 20000 in
theorem dX7_count_41 : decode cX7_count 41 = .ok (.getfield 10, 3) := by decide +kernel
set_option maxRecDepth 20000 in
theorem dX7_count_44 : decode cX7_count 44 = .ok (.getfield 91, 3) := by decide +kernel
set_option maxRecDepth 20000 in
theorem dX7_count_47 : decode cX7_count 47 = .ok (.ireturn, 1) := by decide +kernel
set_option maxRecDepth 20000 in
theorem dX7_count_48 : decode cX7_count 48 = .ok (.aload_n 0, 1) := by decide +kernel
set_option maxRecDepth 20000 in
theorem dX7_count_49 : decode cX7_count 49 = .ok (.getfield 10, 3) := by decide +kernel
set_option maxRecDepth 20000 in
theorem dX7_count_52 : decode cX7_count 52 = .ok (.invokevirtual 247, 3) := by decide +kernel
set_option maxRecDepth 20000 in
theorem dX7_count_55 : decode cX7_count 55 = .ok (.ireturn, 1) := by decide +kernel
set_option maxRecDepth 20000 in
theorem dX7_count_56 : decode cX7_count 56 = .ok (.aload_n 0, 1) := by decide +kernel
set_option maxRecDepth 20000 in
theorem dX7_count_57 : decode cX7_count 57 = .ok (.getfield 10, 3) := by decide +kernel
set_option maxRecDepth 20000 in
theorem dX7_count_60 : decode cX7_count 60 = .ok (.invokevirtual 250, 3) := by decide +kernel
set_option maxRecDepth 20000 in
theorem dX7_count_63 : decode cX7_count 63 = .ok (.ireturn, 1) := by decide +kernel
set_option maxRecDepth 20000 in
theorem dX7_count_64 : decode cX7_count 64 = .ok (.bipush (-2), 2) := by decide +kernel
set_option maxRecDepth 20000 in
theorem dX7_count_66 : decode cX7_count 66 = .ok (.ireturn, 1) := by decide +kernel
def f_X7_count (N : Nat) (c_board_askers : Int32) (c_board_places : Int32) (c_board_seats : Nat → Int32) (c_board_wishes : Nat → Int32) (a1 : Int32) : Option (Int32) :=
  if a1 = 0 then
    some c_board_askers
  else if a1 = 1 then
    some c_board_places
  else if a1 = 2 then
    (f_X0_allSeats N c_board_places c_board_seats).bind fun r4 =>
    some r4
  else if a1 = 3 then
    (f_X0_allWishes N c_board_wishes).bind fun r7 =>
    some r7
  else 
    some (-2 : Int32)
set_option maxHeartbeats 4000000 in
set_option maxRecDepth 100000 in
theorem c_X7_count {N : Nat} {c_board_askers : Int32} {c_board_places : Int32} {c_board_seats : Nat → Int32} {c_board_wishes : Nat → Int32}  {u_above : Int64} {u_below : Int64} {u_board_age : Int32} {a1 : Int32} {res : Int32} (hf : f_X7_count N c_board_askers c_board_places c_board_seats c_board_wishes a1 = some res) : Con mu_X7_count [.ref 0, .int a1] (w_X7_count c_board_askers c_board_places c_board_seats c_board_wishes u_above u_below u_board_age) (some (.int res)) (w_X7_count c_board_askers c_board_places c_board_seats c_board_wishes u_above u_below u_board_age) := by
  refine Con.mk (show plainName RX7 = true by decide +kernel) (leb rfl) (fun κ ω A ad => ?_)
  change GG mu_X7_count κ ω A (QR κ ω A ad (some (.int res)) (w_X7_count c_board_askers c_board_places c_board_seats c_board_wishes u_above u_below u_board_age)) ad 0 0 0 (w_X7_count c_board_askers c_board_places c_board_seats c_board_wishes u_above u_below u_board_age) [some (.ref 0), some (.int a1)] []
  refine G_iload_n dX7_count_0 rfl rfl ?_
  by_cases h1 : a1 = 0
  · replace hf := ob_t h1 hf
    refine G_tswIn 0 32 h1 dX7_count_1 (by decide) (by decide) rfl (by decide) ?_
    refine G_aload_n dX7_count_32 rfl rfl ?_
    refine G_get (v := .ref 1) F_X7_10 dX7_count_33 rfl rfl ?_
    refine G_get (v := .int c_board_askers) F_X7_79 dX7_count_36 rfl rfl ?_
    obtain rfl := os hf
    exact G_ireturn dX7_count_39 rfl
  replace hf := ob_f h1 hf
  by_cases h2 : a1 = 1
  · replace hf := ob_t h2 hf
    refine G_tswIn 1 40 h2 dX7_count_1 (by decide) (by decide) rfl (by decide) ?_
    refine G_aload_n dX7_count_40 rfl rfl ?_
    refine G_get (v := .ref 1) F_X7_10 dX7_count_41 rfl rfl ?_
    refine G_get (v := .int c_board_places) F_X7_91 dX7_count_44 rfl rfl ?_
    obtain rfl := os hf
    exact G_ireturn dX7_count_47 rfl
  replace hf := ob_f h2 hf
  by_cases h3 : a1 = 2
  · replace hf := ob_t h3 hf
    refine G_tswIn 2 48 h3 dX7_count_1 (by decide) (by decide) rfl (by decide) ?_
    refine G_aload_n dX7_count_48 rfl rfl ?_
    refine G_get (v := .ref 1) F_X7_10 dX7_count_49 rfl rfl ?_
    obtain ⟨r4, hc5, hf⟩ := ob hf
    refine G_callV (μ2 := mu_X0_allSeats) (As := []) (w2 := (w_X7_count c_board_askers c_board_places c_board_seats c_board_wishes u_above u_below u_board_age)) (wc := (w_X0_allSeats c_board_places c_board_seats c_board_askers u_board_age)) (wc2 := (w_X0_allSeats c_board_places c_board_seats c_board_askers u_board_age)) (rest := []) (rv := [.int r4]) [1, 2] [3, 1009, 1010] [0, 3] [0, 2, 3, 1] (c_X0_allSeats hc5) cw_X0_allSeats m_X7_247 dX7_count_52 rfl ⟨leb rfl, leb rfl⟩ ⟨rfl, rfl⟩ rfl ⟨_, rfl, rfl⟩ (Fit.mk rfl rfl rfl) rfl (leb rfl) (ROsub.nil rfl rfl) rfl ?_
    change GG _ _ _ _ _ _ _ _ _ (w_X7_count c_board_askers c_board_places c_board_seats c_board_wishes u_above u_below u_board_age) [some (.ref 0), some (.int a1)] [.int r4]
    obtain rfl := os hf
    exact G_ireturn dX7_count_55 rfl
  replace hf := ob_f h3 hf
  by_cases h6 : a1 = 3
  · replace hf := ob_t h6 hf
    refine G_tswIn 3 56 h6 dX7_count_1 (by decide) (by decide) rfl (by decide) ?_
    refine G_aload_n dX7_count_56 rfl rfl ?_
    refine G_get (v := .ref 1) F_X7_10 dX7_count_57 rfl rfl ?_
    obtain ⟨r7, hc8, hf⟩ := ob hf
    refine G_callV (μ2 := mu_X0_allWishes) (As := []) (w2 := (w_X7_count c_board_askers c_board_places c_board_seats c_board_wishes u_above u_below u_board_age)) (wc := (w_X0_allWishes c_board_wishes c_board_askers c_board_places u_board_age)) (wc2 := (w_X0_allWishes c_board_wishes c_board_askers c_board_places u_board_age)) (rest := []) (rv := [.int r7]) [1, 3] [2, 1009, 1010] [0, 2] [0, 2, 1, 3] (c_X0_allWishes hc8) cw_X0_allWishes m_X7_250 dX7_count_60 rfl ⟨leb rfl, leb rfl⟩ ⟨rfl, rfl⟩ rfl ⟨_, rfl, rfl⟩ (Fit.mk rfl rfl rfl) rfl (leb rfl) (ROsub.nil rfl rfl) rfl ?_
    change GG _ _ _ _ _ _ _ _ _ (w_X7_count c_board_askers c_board_places c_board_seats c_board_wishes u_above u_below u_board_age) [some (.ref 0), some (.int a1)] [.int r7]
    obtain rfl := os hf
    exact G_ireturn dX7_count_63 rfl
  replace hf := ob_f h6 hf
  refine G_tswOut 64 [0, 1, 2, 3] (by decide) (List.forall_mem_cons.mpr ⟨h1, (List.forall_mem_cons.mpr ⟨h2, (List.forall_mem_cons.mpr ⟨h3, (List.forall_mem_cons.mpr ⟨h6, (fun _ h => absurd h List.not_mem_nil)⟩)⟩)⟩)⟩) dX7_count_1 (by decide) ?_
  refine G_bipush (-2 : Int32) dX7_count_64 (by decide) ?_
  obtain rfl := os hf
  exact G_ireturn dX7_count_66 rfl
