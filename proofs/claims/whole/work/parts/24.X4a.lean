/-! printed by wip/gen: WishPlaces$Search, part 0 -/
set_option maxRecDepth 100000 in
theorem uX4 : ∀ w ∈ u_ws RX4 TX4 16, w ∈ ALLW := by decide +kernel
theorem F_X4_9 : FLD RX4 9 4 0 (.object "WishPlaces$Board") true := ⟨RX4, TX4, 16, tyX4, rfl, by decide, uX4, all_of 70 (by decide +kernel) (by decide +kernel), tyX4_ok, rfl, nmX4, rfl⟩
theorem F_X4_15 : FLD RX4 15 4 12 (.array .int) true := ⟨RX4, TX4, 16, tyX4, rfl, by decide, uX4, all_of 82 (by decide +kernel) (by decide +kernel), tyX4_ok, rfl, nmX4, rfl⟩
theorem F_X4_19 : FLD RX4 19 4 1 (.array .int) true := ⟨RX4, TX4, 16, tyX4, rfl, by decide, uX4, all_of 71 (by decide +kernel) (by decide +kernel), tyX4_ok, rfl, nmX4, rfl⟩
theorem F_X4_22 : FLD RX4 22 4 2 (.array .int) true := ⟨RX4, TX4, 16, tyX4, rfl, by decide, uX4, all_of 72 (by decide +kernel) (by decide +kernel), tyX4_ok, rfl, nmX4, rfl⟩
theorem F_X4_25 : FLD RX4 25 4 6 (.array .int) true := ⟨RX4, TX4, 16, tyX4, rfl, by decide, uX4, all_of 76 (by decide +kernel) (by decide +kernel), tyX4_ok, rfl, nmX4, rfl⟩
theorem F_X4_28 : FLD RX4 28 4 7 (.array .int) true := ⟨RX4, TX4, 16, tyX4, rfl, by decide, uX4, all_of 77 (by decide +kernel) (by decide +kernel), tyX4_ok, rfl, nmX4, rfl⟩
theorem F_X4_31 : FLD RX4 31 4 8 (.array .int) true := ⟨RX4, TX4, 16, tyX4, rfl, by decide, uX4, all_of 78 (by decide +kernel) (by decide +kernel), tyX4_ok, rfl, nmX4, rfl⟩
theorem F_X4_34 : FLD RX4 34 4 9 (.array .int) true := ⟨RX4, TX4, 16, tyX4, rfl, by decide, uX4, all_of 79 (by decide +kernel) (by decide +kernel), tyX4_ok, rfl, nmX4, rfl⟩
theorem F_X4_37 : FLD RX4 37 4 10 (.array .int) true := ⟨RX4, TX4, 16, tyX4, rfl, by decide, uX4, all_of 80 (by decide +kernel) (by decide +kernel), tyX4_ok, rfl, nmX4, rfl⟩
theorem F_X4_40 : FLD RX4 40 4 13 (.array .int) true := ⟨RX4, TX4, 16, tyX4, rfl, by decide, uX4, all_of 83 (by decide +kernel) (by decide +kernel), tyX4_ok, rfl, nmX4, rfl⟩
theorem F_X4_43 : FLD RX4 43 4 14 (.array .int) true := ⟨RX4, TX4, 16, tyX4, rfl, by decide, uX4, all_of 84 (by decide +kernel) (by decide +kernel), tyX4_ok, rfl, nmX4, rfl⟩
theorem F_X4_46 : FLD RX4 46 4 15 (.array .int) true := ⟨RX4, TX4, 16, tyX4, rfl, by decide, uX4, all_of 85 (by decide +kernel) (by decide +kernel), tyX4_ok, rfl, nmX4, rfl⟩
theorem F_X4_49 : FLD RX4 49 4 3 .int false := ⟨RX4, TX4, 16, tyX4, rfl, by decide, uX4, all_of 73 (by decide +kernel) (by decide +kernel), tyX4_ok, rfl, nmX4, rfl⟩
theorem F_X4_57 : FLD RX4 57 0 0 .int false := ⟨RX0, TX0, 7, tyX0, rfl, by decide, uX0, all_of 32 (by decide +kernel) (by decide +kernel), tyX0_ok, rfl, nmX0, rfl⟩
theorem F_X4_60 : FLD RX4 60 0 1 .int false := ⟨RX0, TX0, 7, tyX0, rfl, by decide, uX0, all_of 37 (by decide +kernel) (by decide +kernel), tyX0_ok, rfl, nmX0, rfl⟩
theorem F_X4_63 : FLD RX4 63 4 4 .int false := ⟨RX4, TX4, 16, tyX4, rfl, by decide, uX4, all_of 74 (by decide +kernel) (by decide +kernel), tyX4_ok, rfl, nmX4, rfl⟩
theorem F_X4_68 : FLD RX4 68 4 5 .int false := ⟨RX4, TX4, 16, tyX4, rfl, by decide, uX4, all_of 75 (by decide +kernel) (by decide +kernel), tyX4_ok, rfl, nmX4, rfl⟩
theorem F_X4_90 : FLD RX4 90 4 11 .int false := ⟨RX4, TX4, 16, tyX4, rfl, by decide, uX4, all_of 81 (by decide +kernel) (by decide +kernel), tyX4_ok, rfl, nmX4, rfl⟩
theorem m_X4_53 : Cond.methodLink RX4 53 yX4_isSolved ∈ ALLW := all_of 378 (by decide +kernel) (by decide +kernel)
theorem m_X4_64 : Cond.methodLink RX4 64 yX0_seatBits ∈ ALLW := all_of 382 (by decide +kernel) (by decide +kernel)
theorem m_X4_70 : Cond.methodLink RX4 70 arraycopyName ∈ ALLW := all_of 386 (by decide +kernel) (by decide +kernel)
theorem kn_copy : Cond.native arraycopyName ∈ ALLW := all_of 388 (by decide +kernel) (by decide +kernel)
theorem ks_copy : Cond.static arraycopyName ∈ ALLW := all_of 387 (by decide +kernel) (by decide +kernel)
theorem ki_copy : Cond.initialized "java/lang/System" ∈ ALLW := all_of 10 (by decide +kernel) (by decide +kernel)
theorem m_X4_76 : Cond.methodLink RX4 76 yX4_setClips ∈ ALLW := all_of 389 (by decide +kernel) (by decide +kernel)
theorem m_X4_79 : Cond.methodLink RX4 79 yX4_spread ∈ ALLW := all_of 398 (by decide +kernel) (by decide +kernel)
theorem m_X4_82 : Cond.methodLink RX4 82 yX4_weigh ∈ ALLW := all_of 410 (by decide +kernel) (by decide +kernel)
theorem m_X4_86 : Cond.methodLink RX4 86 yX4_setClip ∈ ALLW := all_of 394 (by decide +kernel) (by decide +kernel)
theorem m_X4_93 : Cond.methodLink RX4 93 yX4_spreadEntry ∈ ALLW := all_of 402 (by decide +kernel) (by decide +kernel)
theorem m_X4_97 : Cond.methodLink RX4 97 yX4_entryOf ∈ ALLW := all_of 406 (by decide +kernel) (by decide +kernel)
theorem m_X4_101 : Cond.methodLink RX4 101 yX4_weighEntry ∈ ALLW := all_of 414 (by decide +kernel) (by decide +kernel)
theorem m_X4_104 : Cond.methodLink RX4 104 yX4_childOf ∈ ALLW := all_of 418 (by decide +kernel) (by decide +kernel)
theorem m_X4_107 : Cond.methodLink RX4 107 yX4_waysBy ∈ ALLW := all_of 435 (by decide +kernel) (by decide +kernel)
theorem k_X4_85 : Cond.constant RX4 85 (-2000000000 : Int32) ∈ ALLW := all_of 393 (by decide +kernel) (by decide +kernel)
abbrev mu_X4_setGain : KM := (yX4_setGain, cX4_setGain, 4, none, { frames := 0, cells := 0, slots := 0, locals := 0 }, [], [])
def w_X4_setGain (c_gains : Nat → Int32) (u_askers : Int32) (u_places : Int32) (u_seatBits : Int32) (u_entries : Int32) : List mE := [.inr (4, [.ref 1000, .ref 1, .ref 1001, .int u_askers, .int u_places, .int u_seatBits, .ref 1002, .ref 1003, .ref 1004, .ref 1005, .ref 1006, .int u_entries, .ref 1007, .ref 1008, .ref 1009, .ref 1010]), .inl (0, 56, .inl c_gains)]
theorem cw_X4_setGain : CWv mu_X4_setGain 3 := ⟨⟨all_of 373 (by decide +kernel) (by decide +kernel), all_of 3 (by decide +kernel) (by decide +kernel), by decide +kernel, by decide +kernel, by decide +kernel⟩, all_of 371 (by decide +kernel) (by decide +kernel), all_of 372 (by decide +kernel) (by decide +kernel)⟩
abbrev mu_X4_bestGain : KM := (yX4_bestGain, cX4_bestGain, 1, (some .int), { frames := 0, cells := 0, slots := 0, locals := 0 }, [], [])
def w_X4_bestGain (c_best : Nat → Int32) (u_askers : Int32) (u_places : Int32) (u_seatBits : Int32) (u_entries : Int32) : List mE := [.inr (4, [.ref 1000, .ref 1001, .ref 1002, .int u_askers, .int u_places, .int u_seatBits, .ref 1003, .ref 1, .ref 1004, .ref 1005, .ref 1006, .int u_entries, .ref 1007, .ref 1008, .ref 1009, .ref 1010]), .inl (0, 1056, .inl c_best)]
theorem cw_X4_bestGain : CWv mu_X4_bestGain 0 := ⟨⟨all_of 556 (by decide +kernel) (by decide +kernel), all_of 3 (by decide +kernel) (by decide +kernel), by decide +kernel, by decide +kernel, by decide +kernel⟩, all_of 554 (by decide +kernel) (by decide +kernel), all_of 555 (by decide +kernel) (by decide +kernel)⟩
abbrev mu_X4_howMany : KM := (yX4_howMany, cX4_howMany, 1, (some .int), { frames := 0, cells := 0, slots := 0, locals := 0 }, [], [])
def w_X4_howMany (c_ways : Nat → Int32) (u_askers : Int32) (u_places : Int32) (u_seatBits : Int32) (u_entries : Int32) : List mE := [.inr (4, [.ref 1000, .ref 1001, .ref 1002, .int u_askers, .int u_places, .int u_seatBits, .ref 1003, .ref 1004, .ref 1, .ref 1005, .ref 1006, .int u_entries, .ref 1007, .ref 1008, .ref 1009, .ref 1010]), .inl (0, 1056, .inl c_ways)]
theorem cw_X4_howMany : CWv mu_X4_howMany 0 := ⟨⟨all_of 425 (by decide +kernel) (by decide +kernel), all_of 3 (by decide +kernel) (by decide +kernel), by decide +kernel, by decide +kernel, by decide +kernel⟩, all_of 423 (by decide +kernel) (by decide +kernel), all_of 424 (by decide +kernel) (by decide +kernel)⟩
abbrev mu_X4_isSolved : KM := (yX4_isSolved, cX4_isSolved, 3, (some .boolean), { frames := 1, cells := 0, slots := 0, locals := 22 }, [], [])
def w_X4_isSolved (c_askers : Int32) (c_places : Int32) (c_seatBits : Int32) (c_board_askers : Int32) (c_board_places : Int32) (c_gains : Nat → Int32) (c_solvedGains : Nat → Int32) (c_board_seats : Nat → Int32) (u_entries : Int32) (u_board_age : Int32) : List mE := [.inr (4, [.ref 1, .ref 2, .ref 3, .int c_askers, .int c_places, .int c_seatBits, .ref 1000, .ref 1001, .ref 1002, .ref 1003, .ref 1004, .int u_entries, .ref 1005, .ref 1006, .ref 1007, .ref 1008]), .inr (0, [.int c_board_askers, .int c_board_places, .int u_board_age, .ref 4, .ref 1009, .ref 1010, .ref 1011]), .inl (0, 56, .inl c_gains), .inl (0, 56, .inl c_solvedGains), .inl (0, 6, .inl c_board_seats)]
theorem cw_X4_isSolved : CWv mu_X4_isSolved 0 := ⟨⟨all_of 381 (by decide +kernel) (by decide +kernel), all_of 3 (by decide +kernel) (by decide +kernel), by decide +kernel, by decide +kernel, by decide +kernel⟩, all_of 380 (by decide +kernel) (by decide +kernel), all_pr 4 (by decide +kernel) (by decide +kernel)⟩
abbrev mu_X4_setClip : KM := (yX4_setClip, cX4_setClip, 4, none, { frames := 0, cells := 0, slots := 0, locals := 0 }, [], [])
def w_X4_setClip (c_clipAll : Nat → Int32) (c_clipToOne : Nat → Int32) (c_clipToTwo : Nat → Int32) (u_askers : Int32) (u_places : Int32) (u_seatBits : Int32) (u_entries : Int32) : List mE := [.inr (4, [.ref 1000, .ref 1001, .ref 1002, .int u_askers, .int u_places, .int u_seatBits, .ref 1003, .ref 1004, .ref 1005, .ref 1006, .ref 1007, .int u_entries, .ref 1008, .ref 1, .ref 2, .ref 3]), .inl (0, 9, .inl c_clipAll), .inl (0, 9, .inl c_clipToOne), .inl (0, 9, .inl c_clipToTwo)]
theorem cw_X4_setClip : CWv mu_X4_setClip 3 := ⟨⟨all_of 397 (by decide +kernel) (by decide +kernel), all_of 3 (by decide +kernel) (by decide +kernel), by decide +kernel, by decide +kernel, by decide +kernel⟩, all_of 396 (by decide +kernel) (by decide +kernel), all_pr 6 (by decide +kernel) (by decide +kernel)⟩
abbrev mu_X4_setClips : KM := (yX4_setClips, cX4_setClips, 4, none, { frames := 1, cells := 0, slots := 0, locals := 23 }, [], [])
def w_X4_setClips (c_askers : Int32) (c_places : Int32) (c_clipAll : Nat → Int32) (c_clipToOne : Nat → Int32) (c_clipToTwo : Nat → Int32) (c_gains : Nat → Int32) (u_seatBits : Int32) (u_entries : Int32) : List mE := [.inr (4, [.ref 1000, .ref 4, .ref 1001, .int c_askers, .int c_places, .int u_seatBits, .ref 1002, .ref 1003, .ref 1004, .ref 1005, .ref 1006, .int u_entries, .ref 1007, .ref 1, .ref 2, .ref 3]), .inl (0, 9, .inl c_clipAll), .inl (0, 9, .inl c_clipToOne), .inl (0, 9, .inl c_clipToTwo), .inl (0, 56, .inl c_gains)]
theorem cw_X4_setClips : CWv mu_X4_setClips 0 := ⟨⟨all_of 392 (by decide +kernel) (by decide +kernel), all_of 3 (by decide +kernel) (by decide +kernel), by decide +kernel, by decide +kernel, by decide +kernel⟩, all_of 391 (by decide +kernel) (by decide +kernel), all_pr 5 (by decide +kernel) (by decide +kernel)⟩
abbrev mu_X4_entryOf : KM := (yX4_entryOf, cX4_entryOf, 6, (some .int), { frames := 0, cells := 0, slots := 0, locals := 0 }, [], [])
def w_X4_entryOf (c_entries : Int32) (c_clipAll : Nat → Int32) (c_clipToOne : Nat → Int32) (c_clipToTwo : Nat → Int32) (c_firstOf : Nat → Int32) (c_left : Nat → Int32) (c_slots : Nat → Int32) (u_askers : Int32) (u_places : Int32) (u_seatBits : Int32) : List mE := [.inr (4, [.ref 1000, .ref 1001, .ref 1002, .int u_askers, .int u_places, .int u_seatBits, .ref 5, .ref 1003, .ref 1004, .ref 1005, .ref 4, .int c_entries, .ref 6, .ref 1, .ref 2, .ref 3]), .inl (0, 9, .inl c_clipAll), .inl (0, 9, .inl c_clipToOne), .inl (0, 9, .inl c_clipToTwo), .inl (0, 10, .inl c_firstOf), .inl (0, 1056, .inl c_left), .inl (0, 4096, .inl c_slots)]
theorem cw_X4_entryOf : CWv mu_X4_entryOf 2 := ⟨⟨all_of 409 (by decide +kernel) (by decide +kernel), all_of 3 (by decide +kernel) (by decide +kernel), by decide +kernel, by decide +kernel, by decide +kernel⟩, all_of 408 (by decide +kernel) (by decide +kernel), all_pr 9 (by decide +kernel) (by decide +kernel)⟩
abbrev mu_X4_spreadEntry : KM := (yX4_spreadEntry, cX4_spreadEntry, 6, none, { frames := 1, cells := 0, slots := 0, locals := 25 }, [], [])
def w_X4_spreadEntry (c_places : Int32) (c_entries : Int32) (c_clipAll : Nat → Int32) (c_clipToOne : Nat → Int32) (c_clipToTwo : Nat → Int32) (c_firstOf : Nat → Int32) (c_gains : Nat → Int32) (c_left : Nat → Int32) (c_next : Nat → Int32) (c_slots : Nat → Int32) (u_askers : Int32) (u_seatBits : Int32) : List mE := [.inr (4, [.ref 1000, .ref 5, .ref 1001, .int u_askers, .int c_places, .int u_seatBits, .ref 6, .ref 1002, .ref 1003, .ref 7, .ref 4, .int c_entries, .ref 8, .ref 1, .ref 2, .ref 3]), .inl (0, 9, .inl c_clipAll), .inl (0, 9, .inl c_clipToOne), .inl (0, 9, .inl c_clipToTwo), .inl (0, 10, .inl c_firstOf), .inl (0, 56, .inl c_gains), .inl (0, 1056, .inl c_left), .inl (0, 7392, .inl c_next), .inl (0, 4096, .inl c_slots)]
theorem cw_X4_spreadEntry : CWv mu_X4_spreadEntry 2 := ⟨⟨all_of 405 (by decide +kernel) (by decide +kernel), all_of 3 (by decide +kernel) (by decide +kernel), by decide +kernel, by decide +kernel, by decide +kernel⟩, all_of 404 (by decide +kernel) (by decide +kernel), all_pr 8 (by decide +kernel) (by decide +kernel)⟩
abbrev mu_X4_spread : KM := (yX4_spread, cX4_spread, 3, none, { frames := 2, cells := 0, slots := 0, locals := 50 }, [], [])
def w_X4_spread (c_askers : Int32) (c_places : Int32) (c_seatBits : Int32) (c_entries : Int32) (c_clipAll : Nat → Int32) (c_clipToOne : Nat → Int32) (c_clipToTwo : Nat → Int32) (c_firstOf : Nat → Int32) (c_gains : Nat → Int32) (c_left : Nat → Int32) (c_next : Nat → Int32) (c_slots : Nat → Int32) : List mE := [.inr (4, [.ref 1000, .ref 5, .ref 1001, .int c_askers, .int c_places, .int c_seatBits, .ref 6, .ref 1002, .ref 1003, .ref 7, .ref 4, .int c_entries, .ref 8, .ref 1, .ref 2, .ref 3]), .inl (0, 9, .inl c_clipAll), .inl (0, 9, .inl c_clipToOne), .inl (0, 9, .inl c_clipToTwo), .inl (0, 10, .inl c_firstOf), .inl (0, 56, .inl c_gains), .inl (0, 1056, .inl c_left), .inl (0, 7392, .inl c_next), .inl (0, 4096, .inl c_slots)]
theorem cw_X4_spread : CWv mu_X4_spread 0 := ⟨⟨all_of 401 (by decide +kernel) (by decide +kernel), all_of 3 (by decide +kernel) (by decide +kernel), by decide +kernel, by decide +kernel, by decide +kernel⟩, all_of 400 (by decide +kernel) (by decide +kernel), all_pr 7 (by decide +kernel) (by decide +kernel)⟩
abbrev mu_X4_childOf : KM := (yX4_childOf, cX4_childOf, 4, (some .int), { frames := 0, cells := 0, slots := 0, locals := 0 }, [], [])
def w_X4_childOf (c_next : Nat → Int32) (u_askers : Int32) (u_places : Int32) (u_seatBits : Int32) (u_entries : Int32) : List mE := [.inr (4, [.ref 1000, .ref 1001, .ref 1002, .int u_askers, .int u_places, .int u_seatBits, .ref 1003, .ref 1004, .ref 1005, .ref 1, .ref 1006, .int u_entries, .ref 1007, .ref 1008, .ref 1009, .ref 1010]), .inl (0, 7392, .inl c_next)]
theorem cw_X4_childOf : CWv mu_X4_childOf 2 := ⟨⟨all_of 421 (by decide +kernel) (by decide +kernel), all_of 3 (by decide +kernel) (by decide +kernel), by decide +kernel, by decide +kernel, by decide +kernel⟩, all_of 420 (by decide +kernel) (by decide +kernel), all_pr 12 (by decide +kernel) (by decide +kernel)⟩
abbrev mu_X4_weighEntry : KM := (yX4_weighEntry, cX4_weighEntry, 8, none, { frames := 1, cells := 0, slots := 0, locals := 23 }, [], [])
def w_X4_weighEntry (c_places : Int32) (c_best : Nat → Int32) (c_gains : Nat → Int32) (c_next : Nat → Int32) (c_ways : Nat → Int32) (u_askers : Int32) (u_seatBits : Int32) (u_entries : Int32) : List mE := [.inr (4, [.ref 1000, .ref 2, .ref 1001, .int u_askers, .int c_places, .int u_seatBits, .ref 1002, .ref 1, .ref 4, .ref 3, .ref 1003, .int u_entries, .ref 1004, .ref 1005, .ref 1006, .ref 1007]), .inl (0, 1056, .inl c_best), .inl (0, 56, .inl c_gains), .inl (0, 7392, .inl c_next), .inl (0, 1056, .inl c_ways)]
theorem cw_X4_weighEntry : CWv mu_X4_weighEntry 2 := ⟨⟨all_of 417 (by decide +kernel) (by decide +kernel), all_of 3 (by decide +kernel) (by decide +kernel), by decide +kernel, by decide +kernel, by decide +kernel⟩, all_of 416 (by decide +kernel) (by decide +kernel), all_pr 11 (by decide +kernel) (by decide +kernel)⟩
abbrev mu_X4_weigh : KM := (yX4_weigh, cX4_weigh, 3, none, { frames := 2, cells := 0, slots := 0, locals := 50 }, [], [])
def w_X4_weigh (c_askers : Int32) (c_places : Int32) (c_entries : Int32) (c_best : Nat → Int32) (c_firstOf : Nat → Int32) (c_gains : Nat → Int32) (c_next : Nat → Int32) (c_ways : Nat → Int32) (u_seatBits : Int32) : List mE := [.inr (4, [.ref 1000, .ref 3, .ref 1001, .int c_askers, .int c_places, .int u_seatBits, .ref 1002, .ref 1, .ref 5, .ref 4, .ref 2, .int c_entries, .ref 1003, .ref 1004, .ref 1005, .ref 1006]), .inl (0, 1056, .inl c_best), .inl (0, 10, .inl c_firstOf), .inl (0, 56, .inl c_gains), .inl (0, 7392, .inl c_next), .inl (0, 1056, .inl c_ways)]
theorem cw_X4_weigh : CWv mu_X4_weigh 0 := ⟨⟨all_of 413 (by decide +kernel) (by decide +kernel), all_of 3 (by decide +kernel) (by decide +kernel), by decide +kernel, by decide +kernel, by decide +kernel⟩, all_of 412 (by decide +kernel) (by decide +kernel), all_pr 10 (by decide +kernel) (by decide +kernel)⟩
abbrev mu_X4_solve : KM := (yX4_solve, cX4_solve, 1, none, { frames := 3, cells := 0, slots := 0, locals := 72 }, [], [])
def w_X4_solve (c_askers : Int32) (c_places : Int32) (c_seatBits : Int32) (c_entries : Int32) (c_best : Nat → Int32) (c_board_askers : Int32) (c_board_places : Int32) (c_clipAll : Nat → Int32) (c_clipToOne : Nat → Int32) (c_clipToTwo : Nat → Int32) (c_firstOf : Nat → Int32) (c_gains : Nat → Int32) (c_left : Nat → Int32) (c_next : Nat → Int32) (c_slots : Nat → Int32) (c_solvedGains : Nat → Int32) (c_ways : Nat → Int32) (c_board_seats : Nat → Int32) (u_board_age : Int32) : List mE := [.inr (4, [.ref 2, .ref 7, .ref 11, .int c_askers, .int c_places, .int c_seatBits, .ref 8, .ref 1, .ref 12, .ref 9, .ref 6, .int c_entries, .ref 10, .ref 3, .ref 4, .ref 5]), .inl (0, 1056, .inl c_best), .inr (0, [.int c_board_askers, .int c_board_places, .int u_board_age, .ref 13, .ref 1000, .ref 1001, .ref 1002]), .inl (0, 9, .inl c_clipAll), .inl (0, 9, .inl c_clipToOne), .inl (0, 9, .inl c_clipToTwo), .inl (0, 10, .inl c_firstOf), .inl (0, 56, .inl c_gains), .inl (0, 1056, .inl c_left), .inl (0, 7392, .inl c_next), .inl (0, 4096, .inl c_slots), .inl (0, 56, .inl c_solvedGains), .inl (0, 1056, .inl c_ways), .inl (0, 6, .inl c_board_seats)]
theorem cw_X4_solve : CWv mu_X4_solve 0 := ⟨⟨all_of 377 (by decide +kernel) (by decide +kernel), all_of 3 (by decide +kernel) (by decide +kernel), by decide +kernel, by decide +kernel, by decide +kernel⟩, all_of 375 (by decide +kernel) (by decide +kernel), all_of 376 (by decide +kernel) (by decide +kernel)⟩
abbrev mu_X4_waysBy : KM := (yX4_waysBy, cX4_waysBy, 5, (some .int), { frames := 1, cells := 0, slots := 0, locals := 23 }, [], [])
def w_X4_waysBy (c_best : Nat → Int32) (c_next : Nat → Int32) (c_solvedGains : Nat → Int32) (c_ways : Nat → Int32) (u_askers : Int32) (u_places : Int32) (u_seatBits : Int32) (u_entries : Int32) : List mE := [.inr (4, [.ref 1000, .ref 1001, .ref 3, .int u_askers, .int u_places, .int u_seatBits, .ref 1002, .ref 1, .ref 4, .ref 2, .ref 1003, .int u_entries, .ref 1004, .ref 1005, .ref 1006, .ref 1007]), .inl (0, 1056, .inl c_best), .inl (0, 7392, .inl c_next), .inl (0, 56, .inl c_solvedGains), .inl (0, 1056, .inl c_ways)]
theorem cw_X4_waysBy : CWv mu_X4_waysBy 3 := ⟨⟨all_of 438 (by decide +kernel) (by decide +kernel), all_of 3 (by decide +kernel) (by decide +kernel), by decide +kernel, by decide +kernel, by decide +kernel⟩, all_of 437 (by decide +kernel) (by decide +kernel), all_pr 13 (by decide +kernel) (by decide +kernel)⟩
abbrev mu_X4_pathTo : KM := (yX4_pathTo, cX4_pathTo, 8, none, { frames := 2, cells := 0, slots := 0, locals := 47 }, [], [])
def w_X4_pathTo (c_askers : Int32) (c_places : Int32) (c_a2 : Nat → Int32) (c_best : Nat → Int32) (c_next : Nat → Int32) (c_solvedGains : Nat → Int32) (c_ways : Nat → Int32) (u_seatBits : Int32) (u_entries : Int32) : List mE := [.inr (4, [.ref 1000, .ref 1001, .ref 4, .int c_askers, .int c_places, .int u_seatBits, .ref 1002, .ref 2, .ref 5, .ref 3, .ref 1003, .int u_entries, .ref 1004, .ref 1005, .ref 1006, .ref 1007]), .inl (0, 8, .inl c_a2), .inl (0, 1056, .inl c_best), .inl (0, 7392, .inl c_next), .inl (0, 56, .inl c_solvedGains), .inl (0, 1056, .inl c_ways)]
theorem cw_X4_pathTo : CWv mu_X4_pathTo 2 := ⟨⟨all_of 434 (by decide +kernel) (by decide +kernel), all_of 3 (by decide +kernel) (by decide +kernel), by decide +kernel, by decide +kernel, by decide +kernel⟩, all_of 432 (by decide +kernel) (by decide +kernel), all_of 433 (by decide +kernel) (by decide +kernel)⟩
abbrev mu_X4_rankOf : KM := (yX4_rankOf, cX4_rankOf, 7, (some .int), { frames := 2, cells := 0, slots := 0, locals := 47 }, [], [])
def w_X4_rankOf (c_askers : Int32) (c_a1 : Nat → Int32) (c_best : Nat → Int32) (c_next : Nat → Int32) (c_solvedGains : Nat → Int32) (c_ways : Nat → Int32) (u_places : Int32) (u_seatBits : Int32) (u_entries : Int32) : List mE := [.inr (4, [.ref 1000, .ref 1001, .ref 4, .int c_askers, .int u_places, .int u_seatBits, .ref 1002, .ref 2, .ref 5, .ref 3, .ref 1003, .int u_entries, .ref 1004, .ref 1005, .ref 1006, .ref 1007]), .inl (0, 8, .inl c_a1), .inl (0, 1056, .inl c_best), .inl (0, 7392, .inl c_next), .inl (0, 56, .inl c_solvedGains), .inl (0, 1056, .inl c_ways)]
theorem cw_X4_rankOf : CWv mu_X4_rankOf 1 := ⟨⟨all_of 532 (by decide +kernel) (by decide +kernel), all_of 3 (by decide +kernel) (by decide +kernel), by decide +kernel, by decide +kernel, by decide +kernel⟩, all_of 530 (by decide +kernel) (by decide +kernel), all_of 531 (by decide +kernel) (by decide +kernel)⟩
set_option maxRecDepth 20000 in
theorem dX4_setGain_0 : decode cX4_setGain 0 = .ok (.aload_n 0, 1) := by decide +kernel
set_option maxRecDepth 20000 in
theorem dX4_setGain_1 : decode cX4_setGain 1 = .ok (.getfield 19, 3) := by decide +kernel
set_option maxRecDepth 20000 in
theorem dX4_setGain_4 : decode cX4_setGain 4 = .ok (.iload_n 1, 1) := by decide +kernel
set_option maxRecDepth 20000 in
theorem dX4_setGain_5 : decode cX4_setGain 5 = .ok (.bipush 7, 2) := by decide +kernel
set_option maxRecDepth 20000 in
theorem dX4_setGain_7 : decode cX4_setGain 7 = .ok (.imul, 1) := by decide +kernel
set_option maxRecDepth 20000 in
theorem dX4_setGain_8 : decode cX4_setGain 8 = .ok (.iload_n 2, 1) := by decide +kernel
set_option maxRecDepth 20000 in
theorem dX4_setGain_9 : decode cX4_setGain 9 = .ok (.iadd, 1) := by decide +kernel
set_option maxRecDepth 20000 in
theorem dX4_setGain_10 : decode cX4_setGain 10 = .ok (.iconst 1, 1) := by decide +kernel
set_option maxRecDepth 20000 in
theorem dX4_setGain_11 : decode cX4_setGain 11 = .ok (.iadd, 1) := by decide +kernel
set_option maxRecDepth 20000 in
theorem dX4_setGain_12 : decode cX4_setGain 12 = .ok (.iload_n 3, 1) := by decide +kernel
set_option maxRecDepth 20000 in
theorem dX4_setGain_13 : decode cX4_setGain 13 = .ok (.iastore, 1) := by decide +kernel
set_option maxRecDepth 20000 in
theorem dX4_setGain_14 : decode cX4_setGain 14 = .ok (.return_, 1) := by decide +kernel
def f_X4_setGain (N : Nat) (c_gains : Nat → Int32) (a1 : Int32) (a2 : Int32) (a3 : Int32) : Option ((Nat → Int32)) :=
  (wrI 56 c_gains (((a1 * 7) + a2) + 1) a3).bind fun t1 =>
  some t1
set_option maxHeartbeats 4000000 in
set_option maxRecDepth 100000 in
theorem c_X4_setGain {N : Nat}  {c_gains : Nat → Int32} {u_askers : Int32} {u_places : Int32} {u_seatBits : Int32} {u_entries : Int32} {a1 : Int32} {a2 : Int32} {a3 : Int32} {res : (Nat → Int32)} (hf : f_X4_setGain N c_gains a1 a2 a3 = some res) : Con mu_X4_setGain [.ref 0, .int a1, .int a2, .int a3] (w_X4_setGain c_gains u_askers u_places u_seatBits u_entries) (none) (w_X4_setGain res u_askers u_places u_seatBits u_entries) := by
  refine Con.mk (show plainName RX4 = true by decide +kernel) (leb rfl) (fun κ ω A ad => ?_)
  change GG mu_X4_setGain κ ω A (QR κ ω A ad (none) (w_X4_setGain res u_askers u_places u_seatBits u_entries)) ad 0 0 0 (w_X4_setGain c_gains u_askers u_places u_seatBits u_entries) [some (.ref 0), some (.int a1), some (.int a2), some (.int a3)] []
  refine G_aload_n dX4_setGain_0 rfl rfl ?_
  refine G_get (v := .ref 1) F_X4_19 dX4_setGain_1 rfl rfl ?_
  refine G_iload_n dX4_setGain_4 rfl rfl ?_
  refine G_bipush 7 dX4_setGain_5 (by decide) ?_
  refine G_imul dX4_setGain_7 ?_
  refine G_iload_n dX4_setGain_8 rfl rfl ?_
  refine G_iadd dX4_setGain_9 ?_
  refine G_iconst 1 dX4_setGain_10 (by decide) ?_
  refine G_iadd dX4_setGain_11 ?_
  refine G_iload_n dX4_setGain_12 rfl rfl ?_
  obtain ⟨t1, ht1, hf⟩ := ob hf
  refine G_iast (w2 := (w_X4_setGain t1 u_askers u_places u_seatBits u_entries)) dX4_setGain_13 rfl ht1 rfl ?_
  obtain rfl := os hf
  exact G_return dX4_setGain_14 rfl
set_option maxRecDepth 20000 in
theorem dX4_bestGain_0 : decode cX4_bestGain 0 = .ok (.aload_n 0, 1) := by decide +kernel
set_option maxRecDepth 20000 in
theorem dX4_bestGain_1 : decode cX4_bestGain 1 = .ok (.getfield 28, 3) := by decide +kernel
set_option maxRecDepth 20000 in
theorem dX4_bestGain_4 : decode cX4_bestGain 4 = .ok (.iconst 0, 1) := by decide +kernel
set_option maxRecDepth 20000 in
theorem dX4_bestGain_5 : decode cX4_bestGain 5 = .ok (.iaload, 1) := by decide +kernel
set_option maxRecDepth 20000 in
theorem dX4_bestGain_6 : decode cX4_bestGain 6 = .ok (.ireturn, 1) := by decide +kernel
def f_X4_bestGain (N : Nat) (c_best : Nat → Int32)  : Option (Int32) :=
  (rdI 1056 c_best 0).bind fun t1 =>
  some t1
set_option maxHeartbeats 4000000 in
set_option maxRecDepth 100000 in
theorem c_X4_bestGain {N : Nat} {c_best : Nat → Int32}  {u_askers : Int32} {u_places : Int32} {u_seatBits : Int32} {u_entries : Int32}  {res : Int32} (hf : f_X4_bestGain N c_best = some res) : Con mu_X4_bestGain [.ref 0] (w_X4_bestGain c_best u_askers u_places u_seatBits u_entries) (some (.int res)) (w_X4_bestGain c_best u_askers u_places u_seatBits u_entries) := by
  refine Con.mk (show plainName RX4 = true by decide +kernel) (leb rfl) (fun κ ω A ad => ?_)
  change GG mu_X4_bestGain κ ω A (QR κ ω A ad (some (.int res)) (w_X4_bestGain c_best u_askers u_places u_seatBits u_entries)) ad 0 0 0 (w_X4_bestGain c_best u_askers u_places u_seatBits u_entries) [some (.ref 0)] []
  refine G_aload_n dX4_bestGain_0 rfl rfl ?_
  refine G_get (v := .ref 1) F_X4_28 dX4_bestGain_1 rfl rfl ?_
  refine G_iconst 0 dX4_bestGain_4 (by decide) ?_
  obtain ⟨t1, ht1, hf⟩ := ob hf
  refine G_iald dX4_bestGain_5 rfl ht1 ?_
  obtain rfl := os hf
  exact G_ireturn dX4_bestGain_6 rfl
set_option maxRecDepth 20000 in
theorem dX4_howMany_0 : decode cX4_howMany 0 = .ok (.aload_n 0, 1) := by decide +kernel
set_option maxRecDepth 20000 in
theorem dX4_howMany_1 : decode cX4_howMany 1 = .ok (.getfield 31, 3) := by decide +kernel
set_option maxRecDepth 20000 in
theorem dX4_howMany_4 : decode cX4_howMany 4 = .ok (.iconst 0, 1) := by decide +kernel
set_option maxRecDepth 20000 in
theorem dX4_howMany_5 : decode cX4_howMany 5 = .ok (.iaload, 1) := by decide +kernel
set_option maxRecDepth 20000 in
theorem dX4_howMany_6 : decode cX4_howMany 6 = .ok (.ireturn, 1) := by decide +kernel
def f_X4_howMany (N : Nat) (c_ways : Nat → Int32)  : Option (Int32) :=
  (rdI 1056 c_ways 0).bind fun t1 =>
  some t1
set_option maxHeartbeats 4000000 in
set_option maxRecDepth 100000 in
theorem c_X4_howMany {N : Nat} {c_ways : Nat → Int32}  {u_askers : Int32} {u_places : Int32} {u_seatBits : Int32} {u_entries : Int32}  {res : Int32} (hf : f_X4_howMany N c_ways = some res) : Con mu_X4_howMany [.ref 0] (w_X4_howMany c_ways u_askers u_places u_seatBits u_entries) (some (.int res)) (w_X4_howMany c_ways u_askers u_places u_seatBits u_entries) := by
  refine Con.mk (show plainName RX4 = true by decide +kernel) (leb rfl) (fun κ ω A ad => ?_)
  change GG mu_X4_howMany κ ω A (QR κ ω A ad (some (.int res)) (w_X4_howMany c_ways u_askers u_places u_seatBits u_entries)) ad 0 0 0 (w_X4_howMany c_ways u_askers u_places u_seatBits u_entries) [some (.ref 0)] []
  refine G_aload_n dX4_howMany_0 rfl rfl ?_
  refine G_get (v := .ref 1) F_X4_31 dX4_howMany_1 rfl rfl ?_
  refine G_iconst 0 dX4_howMany_4 (by decide) ?_
  obtain ⟨t1, ht1, hf⟩ := ob hf
  refine G_iald dX4_howMany_5 rfl ht1 ?_
  obtain rfl := os hf
  exact G_ireturn dX4_howMany_6 rfl
set_option maxRecDepth 20000 in
theorem dX4_isSolved_0 : decode cX4_isSolved 0 = .ok (.aload_n 0, 1) := by decide +kernel
set_option maxRecDepth 20000 in
theorem dX4_isSolved_1 : decode cX4_isSolved 1 = .ok (.getfield 49, 3) := by decide +kernel
set_option maxRecDepth 20000 in
theorem dX4_isSolved_4 : decode cX4_isSolved 4 = .ok (.aload_n 0, 1) := by decide +kernel
set_option maxRecDepth 20000 in
theorem dX4_isSolved_5 : decode cX4_isSolved 5 = .ok (.getfield 9, 3) := by decide +kernel
set_option maxRecDepth 20000 in
theorem dX4_isSolved_8 : decode cX4_isSolved 8 = .ok (.getfield 57, 3) := by decide +kernel
set_option maxRecDepth 20000 in
theorem dX4_isSolved_11 : decode cX4_isSolved 11 = .ok (.if_icmp .ne 31, 3) := by decide +kernel
set_option maxRecDepth 20000 in
theorem dX4_isSolved_14 : decode cX4_isSolved 14 = .ok (.aload_n 0, 1) := by decide +kernel
set_option maxRecDepth 20000 in
theorem dX4_isSolved_15 : decode cX4_isSolved 15 = .ok (.getfield 63, 3) := by decide +kernel
set_option maxRecDepth 20000 in
theorem dX4_isSolved_18 : decode cX4_isSolved 18 = .ok (.aload_n 0, 1) := by decide +kernel
set_option maxRecDepth 20000 in
theorem dX4_isSolved_19 : decode cX4_isSolved 19 = .ok (.getfield 9, 3) := by decide +kernel
set_option maxRecDepth 20000 in
theorem dX4_isSolved_22 : decode cX4_isSolved 22 = .ok (.getfield 60, 3) := by decide +kernel
set_option maxRecDepth 20000 in
theorem dX4_isSolved_25 : decode cX4_isSolved 25 = .ok (.if_icmp .ne 17, 3) := by decide +kernel
set_option maxRecDepth 20000 in
theorem dX4_isSolved_28 : decode cX4_isSolved 28 = .ok (.aload_n 0, 1) := by decide +kernel
set_option maxRecDepth 20000 in
theorem dX4_isSolved_29 : decode cX4_isSolved 29 = .ok (.getfield 68, 3) := by decide +kernel
set_option maxRecDepth 20000 in
theorem dX4_isSolved_32 : decode cX4_isSolved 32 = .ok (.aload_n 0, 1) := by decide +kernel
set_option maxRecDepth 20000 in
theorem dX4_isSolved_33 : decode cX4_isSolved 33 = .ok (.getfield 9, 3) := by decide +kernel
set_option maxRecDepth 20000 in
theorem dX4_isSolved_36 : decode cX4_isSolved 36 = .ok (.invokevirtual 64, 3) := by decide +kernel
set_option maxRecDepth 20000 in
theorem dX4_isSolved_39 : decode cX4_isSolved 39 = .ok (.if_icmp .eq 5, 3) := by decide +kernel
set_option maxRecDepth 20000 in
theorem dX4_isSolved_42 : decode cX4_isSolved 42 = .ok (.iconst 0, 1) := by decide +kernel
set_option maxRecDepth 20000 in
theorem dX4_isSolved_43 : decode cX4_isSolved 43 = .ok (.ireturn, 1) := by decide +kernel
set_option maxRecDepth 20000 in
theorem dX4_isSolved_44 : decode cX4_isSolved 44 = .ok (.iconst 0, 1) := by decide +kernel
set_option maxRecDepth 20000 in
theorem dX4_isSolved_45 : decode cX4_isSolved 45 = .ok (.istore_n 1, 1) := by decide +kernel
set_option maxRecDepth 20000 in
theorem dX4_isSolved_46 : decode cX4_isSolved 46 = .ok (.iload_n 1, 1) := by decide +kernel
set_option maxRecDepth 20000 in
theorem dX4_isSolved_47 : decode cX4_isSolved 47 = .ok (.aload_n 0, 1) := by decide +kernel
set_option maxRecDepth 20000 in
theorem dX4_isSolved_48 : decode cX4_isSolved 48 = .ok (.getfield 49, 3) := by decide +kernel
set_option maxRecDepth 20000 in
theorem dX4_isSolved_51 : decode cX4_isSolved 51 = .ok (.if_icmp .ge 52, 3) := by decide +kernel
set_option maxRecDepth 20000 in
theorem dX4_isSolved_54 : decode cX4_isSolved 54 = .ok (.iconst 0, 1) := by decide +kernel
set_option maxRecDepth 20000 in
theorem dX4_isSolved_55 : decode cX4_isSolved 55 = .ok (.istore_n 2, 1) := by decide +kernel
set_option maxRecDepth 20000 in
theorem dX4_isSolved_56 : decode cX4_isSolved 56 = .ok (.iload_n 2, 1) := by decide +kernel
set_option maxRecDepth 20000 in
theorem dX4_isSolved_57 : decode cX4_isSolved 57 = .ok (.aload_n 0, 1) := by decide +kernel
set_option maxRecDepth 20000 in
theorem dX4_isSolved_58 : decode cX4_isSolved 58 = .ok (.getfield 63, 3) := by decide +kernel
set_option maxRecDepth 20000 in
theorem dX4_isSolved_61 : decode cX4_isSolved 61 = .ok (.if_icmp .gt 36, 3) := by decide +kernel
set_option maxRecDepth 20000 in
theorem dX4_isSolved_64 : decode cX4_isSolved 64 = .ok (.aload_n 0, 1) := by decide +kernel
set_option maxRecDepth 20000 in
theorem dX4_isSolved_65 : decode cX4_isSolved 65 = .ok (.getfield 19, 3) := by decide +kernel
set_option maxRecDepth 20000 in
theorem dX4_isSolved_68 : decode cX4_isSolved 68 = .ok (.iload_n 1, 1) := by decide +kernel
set_option maxRecDepth 20000 in
theorem dX4_isSolved_69 : decode cX4_isSolved 69 = .ok (.bipush 7, 2) := by decide +kernel
set_option maxRecDepth 20000 in
theorem dX4_isSolved_71 : decode cX4_isSolved 71 = .ok (.imul, 1) := by decide +kernel
set_option maxRecDepth 20000 in
theorem dX4_isSolved_72 : decode cX4_isSolved 72 = .ok (.iload_n 2, 1) := by decide +kernel
set_option maxRecDepth 20000 in
theorem dX4_isSolved_73 : decode cX4_isSolved 73 = .ok (.iadd, 1) := by decide +kernel
set_option maxRecDepth 20000 in
theorem dX4_isSolved_74 : decode cX4_isSolved 74 = .ok (.iaload, 1) := by decide +kernel
set_option maxRecDepth 20000 in
theorem dX4_isSolved_75 : decode cX4_isSolved 75 = .ok (.aload_n 0, 1) := by decide +kernel
set_option maxRecDepth 20000 in
theorem dX4_isSolved_76 : decode cX4_isSolved 76 = .ok (.getfield 22, 3) := by decide +kernel
set_option maxRecDepth 20000 in
theorem dX4_isSolved_79 : decode cX4_isSolved 79 = .ok (.iload_n 1, 1) := by decide +kernel
set_option maxRecDepth 20000 in
theorem dX4_isSolved_80 : decode cX4_isSolved 80 = .ok (.bipush 7, 2) := by decide +kernel
set_option maxRecDepth 20000 in
theorem dX4_isSolved_82 : decode cX4_isSolved 82 = .ok (.imul, 1) := by decide +kernel
set_option maxRecDepth 20000 in
theorem dX4_isSolved_83 : decode cX4_isSolved 83 = .ok (.iload_n 2, 1) := by decide +kernel
set_option maxRecDepth 20000 in
theorem dX4_isSolved_84 : decode cX4_isSolved 84 = .ok (.iadd, 1) := by decide +kernel
set_option maxRecDepth 20000 in
theorem dX4_isSolved_85 : decode cX4_isSolved 85 = .ok (.iaload, 1) := by decide +kernel
set_option maxRecDepth 20000 in
theorem dX4_isSolved_86 : decode cX4_isSolved 86 = .ok (.if_icmp .eq 5, 3) := by decide +kernel
set_option maxRecDepth 20000 in
theorem dX4_isSolved_89 : decode cX4_isSolved 89 = .ok (.iconst 0, 1) := by decide +kernel
set_option maxRecDepth 20000 in
theorem dX4_isSolved_90 : decode cX4_isSolved 90 = .ok (.ireturn, 1) := by decide +kernel
set_option maxRecDepth 20000 in
theorem dX4_isSolved_91 : decode cX4_isSolved 91 = .ok (.iinc 2 1, 3) := by decide +kernel
set_option maxRecDepth 20000 in
theorem dX4_isSolved_94 : decode cX4_isSolved 94 = .ok (.goto (-38), 3) := by decide +kernel
set_option maxRecDepth 20000 in
theorem dX4_isSolved_97 : decode cX4_isSolved 97 = .ok (.iinc 1 1, 3) := by decide +kernel
set_option maxRecDepth 20000 in
theorem dX4_isSolved_100 : decode cX4_isSolved 100 = .ok (.goto (-54), 3) := by decide +kernel
set_option maxRecDepth 20000 in
theorem dX4_isSolved_103 : decode cX4_isSolved 103 = .ok (.iconst 1, 1) := by decide +kernel
set_option maxRecDepth 20000 in
theorem dX4_isSolved_104 : decode cX4_isSolved 104 = .ok (.ireturn, 1) := by decide +kernel
def f_X4_isSolved_56 (N : Nat) (c_askers : Int32) (c_places : Int32) (c_seatBits : Int32) (c_board_askers : Int32) (c_board_places : Int32) (c_gains : Nat → Int32) (c_solvedGains : Nat → Int32) (c_board_seats : Nat → Int32) (k46 : Int32 → Option (Int32)) : Nat → Int32 → Int32 → Option (Int32)
  | 0, _, _ => none
  | n + 1, v1, v2 =>
    (if c_places < v2 then
      k46 (v1 + 1)
    else
      (rdI 56 c_gains ((v1 * 7) + v2)).bind fun t2 =>
      (rdI 56 c_solvedGains ((v1 * 7) + v2)).bind fun t3 =>
      (if t2 = t3 then
        f_X4_isSolved_56 N c_askers c_places c_seatBits c_board_askers c_board_places c_gains c_solvedGains c_board_seats k46 n v1 (v2 + 1)
      else
        some 0))
set_option maxHeartbeats 4000000 in
set_option maxRecDepth 100000 in
theorem g_X4_isSolved_56 {κ : KC} {ω : KW} {A : Nat → Prop} {ad : Nat → Nat} {u_entries : Int32} {u_board_age : Int32} {N : Nat} {c_askers : Int32} {c_places : Int32} {c_seatBits : Int32} {c_board_askers : Int32} {c_board_places : Int32} {c_gains : Nat → Int32} {c_solvedGains : Nat → Int32} {c_board_seats : Nat → Int32}  {k46 : Int32 → Option (Int32)} {res : Int32} (hk46 : ∀ {v1 : Int32}, k46 v1 = some res → GG mu_X4_isSolved κ ω A (QR κ ω A ad (some (.int res)) (w_X4_isSolved c_askers c_places c_seatBits c_board_askers c_board_places c_gains c_solvedGains c_board_seats u_entries u_board_age)) ad 0 0 46 (w_X4_isSolved c_askers c_places c_seatBits c_board_askers c_board_places c_gains c_solvedGains c_board_seats u_entries u_board_age) [some (.ref 0), some (.int v1), none] []) : ∀ (n : Nat) {v1 : Int32} {v2 : Int32}, f_X4_isSolved_56 N c_askers c_places c_seatBits c_board_askers c_board_places c_gains c_solvedGains c_board_seats k46 n v1 v2 = some res → GG mu_X4_isSolved κ ω A (QR κ ω A ad (some (.int res)) (w_X4_isSolved c_askers c_places c_seatBits c_board_askers c_board_places c_gains c_solvedGains c_board_seats u_entries u_board_age)) ad 0 0 56 (w_X4_isSolved c_askers c_places c_seatBits c_board_askers c_board_places c_gains c_solvedGains c_board_seats u_entries u_board_age) [some (.ref 0), some (.int v1), some (.int v2)] [] := by
  intro n
  induction n with
  | zero => intro v1 v2 hf; exact ob_0 hf
  | succ n ih =>
    intro v1 v2 hf
    refine G_iload_n dX4_isSolved_56 rfl rfl ?_
    refine G_aload_n dX4_isSolved_57 rfl rfl ?_
    refine G_get (v := .int c_places) F_X4_63 dX4_isSolved_58 rfl rfl ?_
    refine G_icmp_gt 97 dX4_isSolved_61 (by decide) (fun h1 => ?_) (fun h1 => ?_)
    · replace hf := ob_t h1 hf
      refine G_iinc 1 dX4_isSolved_97 (by decide) rfl (ltb rfl) ?_
      change GG _ _ _ _ _ _ _ _ _ _ [some (.ref 0), some (.int (v1 + 1)), some (.int v2)] _
      refine G_goto 46 dX4_isSolved_100 (by decide) ?_
      refine GG.sb (lv2 := [some (.ref 0), some (.int (v1 + 1)), none]) ?_ (lvS_v rfl (lvS_v rfl (lvS_n (lvS_e))))
      exact hk46 hf
    · replace hf := ob_f h1 hf
      refine G_aload_n dX4_isSolved_64 rfl rfl ?_
      refine G_get (v := .ref 2) F_X4_19 dX4_isSolved_65 rfl rfl ?_
      refine G_iload_n dX4_isSolved_68 rfl rfl ?_
      refine G_bipush 7 dX4_isSolved_69 (by decide) ?_
      refine G_imul dX4_isSolved_71 ?_
      refine G_iload_n dX4_isSolved_72 rfl rfl ?_
      refine G_iadd dX4_isSolved_73 ?_
      obtain ⟨t2, ht2, hf⟩ := ob hf
      refine G_iald dX4_isSolved_74 rfl ht2 ?_
      refine G_aload_n dX4_isSolved_75 rfl rfl ?_
      refine G_get (v := .ref 3) F_X4_22 dX4_isSolved_76 rfl rfl ?_
      refine G_iload_n dX4_isSolved_79 rfl rfl ?_
      refine G_bipush 7 dX4_isSolved_80 (by decide) ?_
      refine G_imul dX4_isSolved_82 ?_
      refine G_iload_n dX4_isSolved_83 rfl rfl ?_
      refine G_iadd dX4_isSolved_84 ?_
      obtain ⟨t3, ht3, hf⟩ := ob hf
      refine G_iald dX4_isSolved_85 rfl ht3 ?_
      refine G_icmp_eq 91 dX4_isSolved_86 (by decide) (fun h4 => ?_) (fun h4 => ?_)
      · replace hf := ob_t h4 hf
        refine G_iinc 1 dX4_isSolved_91 (by decide) rfl (ltb rfl) ?_
        change GG _ _ _ _ _ _ _ _ _ _ [some (.ref 0), some (.int v1), some (.int (v2 + 1))] _
        refine G_goto 56 dX4_isSolved_94 (by decide) ?_
        exact ih hf
      · replace hf := ob_f h4 hf
        refine G_iconst 0 dX4_isSolved_89 (by decide) ?_
        obtain rfl := os hf
        exact G_zreturn dX4_isSolved_90 rfl z_0
def f_X4_isSolved_46 (N : Nat) (c_askers : Int32) (c_places : Int32) (c_seatBits : Int32) (c_board_askers : Int32) (c_board_places : Int32) (c_gains : Nat → Int32) (c_solvedGains : Nat → Int32) (c_board_seats : Nat → Int32) : Nat → Int32 → Option (Int32)
  | 0, _ => none
  | n + 1, v1 =>
    (if c_askers ≤ v1 then
      some 1
    else
      f_X4_isSolved_56 N c_askers c_places c_seatBits c_board_askers c_board_places c_gains c_solvedGains c_board_seats (f_X4_isSolved_46 N c_askers c_places c_seatBits c_board_askers c_board_places c_gains c_solvedGains c_board_seats n) N v1 0)
set_option maxHeartbeats 4000000 in
set_option maxRecDepth 100000 in
theorem g_X4_isSolved_46 {κ : KC} {ω : KW} {A : Nat → Prop} {ad : Nat → Nat} {u_entries : Int32} {u_board_age : Int32} {N : Nat} {c_askers : Int32} {c_places : Int32} {c_seatBits : Int32} {c_board_askers : Int32} {c_board_places : Int32} {c_gains : Nat → Int32} {c_solvedGains : Nat → Int32} {c_board_seats : Nat → Int32}  {res : Int32} : ∀ (n : Nat) {v1 : Int32}, f_X4_isSolved_46 N c_askers c_places c_seatBits c_board_askers c_board_places c_gains c_solvedGains c_board_seats n v1 = some res → GG mu_X4_isSolved κ ω A (QR κ ω A ad (some (.int res)) (w_X4_isSolved c_askers c_places c_seatBits c_board_askers c_board_places c_gains c_solvedGains c_board_seats u_entries u_board_age)) ad 0 0 46 (w_X4_isSolved c_askers c_places c_seatBits c_board_askers c_board_places c_gains c_solvedGains c_board_seats u_entries u_board_age) [some (.ref 0), some (.int v1), none] [] := by
  intro n
  induction n with
  | zero => intro v1 hf; exact ob_0 hf
  | succ n ih =>
    intro v1 hf
    refine G_iload_n dX4_isSolved_46 rfl rfl ?_
    refine G_aload_n dX4_isSolved_47 rfl rfl ?_
    refine G_get (v := .int c_askers) F_X4_49 dX4_isSolved_48 rfl rfl ?_
    refine G_icmp_ge 103 dX4_isSolved_51 (by decide) (fun h1 => ?_) (fun h1 => ?_)
    · replace hf := ob_t h1 hf
      refine G_iconst 1 dX4_isSolved_103 (by decide) ?_
      obtain rfl := os hf
      exact G_zreturn dX4_isSolved_104 rfl z_1
    · replace hf := ob_f h1 hf
      refine G_iconst 0 dX4_isSolved_54 (by decide) ?_
      refine G_istore_n dX4_isSolved_55 rfl (ltb rfl) ?_
      change GG _ _ _ _ _ _ _ _ _ _ [some (.ref 0), some (.int v1), some (.int 0)] _
      exact g_X4_isSolved_56 ih N hf
def f_X4_isSolved (N : Nat) (c_askers : Int32) (c_places : Int32) (c_seatBits : Int32) (c_board_askers : Int32) (c_board_places : Int32) (c_gains : Nat → Int32) (c_solvedGains : Nat → Int32) (c_board_seats : Nat → Int32)  : Option (Int32) :=
  (if c_askers = c_board_askers then
    (if c_places = c_board_places then
      (f_X0_seatBits N c_board_places c_board_seats).bind fun r3 =>
      (if c_seatBits = r3 then
        f_X4_isSolved_46 N c_askers c_places c_seatBits c_board_askers c_board_places c_gains c_solvedGains c_board_seats N 0
      else
        some 0)
    else
      some 0)
  else
    some 0)
set_option maxHeartbeats 4000000 in
set_option maxRecDepth 100000 in
theorem c_X4_isSolved {N : Nat} {c_askers : Int32} {c_places : Int32} {c_seatBits : Int32} {c_board_askers : Int32} {c_board_places : Int32} {c_gains : Nat → Int32} {c_solvedGains : Nat → Int32} {c_board_seats : Nat → Int32}  {u_entries : Int32} {u_board_age : Int32}  {res : Int32} (hf : f_X4_isSolved N c_askers c_places c_seatBits c_board_askers c_board_places c_gains c_solvedGains c_board_seats = some res) : Con mu_X4_isSolved [.ref 0] (w_X4_isSolved c_askers c_places c_seatBits c_board_askers c_board_places c_gains c_solvedGains c_board_seats u_entries u_board_age) (some (.int res)) (w_X4_isSolved c_askers c_places c_seatBits c_board_askers c_board_places c_gains c_solvedGains c_board_seats u_entries u_board_age) := by
  refine Con.mk (show plainName RX4 = true by decide +kernel) (leb rfl) (fun κ ω A ad => ?_)
  change GG mu_X4_isSolved κ ω A (QR κ ω A ad (some (.int res)) (w_X4_isSolved c_askers c_places c_seatBits c_board_askers c_board_places c_gains c_solvedGains c_board_seats u_entries u_board_age)) ad 0 0 0 (w_X4_isSolved c_askers c_places c_seatBits c_board_askers c_board_places c_gains c_solvedGains c_board_seats u_entries u_board_age) [some (.ref 0), none, none] []
  refine G_aload_n dX4_isSolved_0 rfl rfl ?_
  refine G_get (v := .int c_askers) F_X4_49 dX4_isSolved_1 rfl rfl ?_
  refine G_aload_n dX4_isSolved_4 rfl rfl ?_
  refine G_get (v := .ref 1) F_X4_9 dX4_isSolved_5 rfl rfl ?_
  refine G_get (v := .int c_board_askers) F_X4_57 dX4_isSolved_8 rfl rfl ?_
  refine G_icmp_ne 42 dX4_isSolved_11 (by decide) (fun h1 => ?_) (fun h1 => ?_)
  · replace hf := ob_f h1 hf
    refine G_iconst 0 dX4_isSolved_42 (by decide) ?_
    obtain rfl := os hf
    exact G_zreturn dX4_isSolved_43 rfl z_0
  · replace hf := ob_t h1 hf
    refine G_aload_n dX4_isSolved_14 rfl rfl ?_
    refine G_get (v := .int c_places) F_X4_63 dX4_isSolved_15 rfl rfl ?_
    refine G_aload_n dX4_isSolved_18 rfl rfl ?_
    refine G_get (v := .ref 1) F_X4_9 dX4_isSolved_19 rfl rfl ?_
    refine G_get (v := .int c_board_places) F_X4_60 dX4_isSolved_22 rfl rfl ?_
    refine G_icmp_ne 42 dX4_isSolved_25 (by decide) (fun h2 => ?_) (fun h2 => ?_)
    · replace hf := ob_f h2 hf
      refine G_iconst 0 dX4_isSolved_42 (by decide) ?_
      obtain rfl := os hf
      exact G_zreturn dX4_isSolved_43 rfl z_0
    · replace hf := ob_t h2 hf
      refine G_aload_n dX4_isSolved_28 rfl rfl ?_
      refine G_get (v := .int c_seatBits) F_X4_68 dX4_isSolved_29 rfl rfl ?_
      refine G_aload_n dX4_isSolved_32 rfl rfl ?_
      refine G_get (v := .ref 1) F_X4_9 dX4_isSolved_33 rfl rfl ?_
      obtain ⟨r3, hc4, hf⟩ := ob hf
      refine G_callV (μ2 := mu_X0_seatBits) (As := []) (w2 := (w_X4_isSolved c_askers c_places c_seatBits c_board_askers c_board_places c_gains c_solvedGains c_board_seats u_entries u_board_age)) (wc := (w_X0_seatBits c_board_places c_board_seats c_board_askers u_board_age)) (wc2 := (w_X0_seatBits c_board_places c_board_seats c_board_askers u_board_age)) (rest := [.int c_seatBits]) (rv := [.int r3]) [1, 4] [1009, 1010, 1011] [0, 2, 3] [0, 3, 1, 2, 4] (c_X0_seatBits hc4) cw_X0_seatBits m_X4_64 dX4_isSolved_36 rfl ⟨leb rfl, leb rfl⟩ ⟨rfl, rfl⟩ rfl ⟨_, rfl, rfl⟩ (Fit.mk rfl rfl rfl) rfl (leb rfl) (ROsub.nil rfl rfl) rfl ?_
      change GG _ _ _ _ _ _ _ _ _ (w_X4_isSolved c_askers c_places c_seatBits c_board_askers c_board_places c_gains c_solvedGains c_board_seats u_entries u_board_age) [some (.ref 0), none, none] [.int r3, .int c_seatBits]
      refine G_icmp_eq 44 dX4_isSolved_39 (by decide) (fun h5 => ?_) (fun h5 => ?_)
      · replace hf := ob_t h5 hf
        refine G_iconst 0 dX4_isSolved_44 (by decide) ?_
        refine G_istore_n dX4_isSolved_45 rfl (ltb rfl) ?_
        change GG _ _ _ _ _ _ _ _ _ _ [some (.ref 0), some (.int 0), none] _
        exact g_X4_isSolved_46 N hf
      · replace hf := ob_f h5 hf
        refine G_iconst 0 dX4_isSolved_42 (by decide) ?_
        obtain rfl := os hf
        exact G_zreturn dX4_isSolved_43 rfl z_0
set_option maxRecDepth 20000 in
theorem dX4_setClip_0 : decode cX4_setClip 0 = .ok (.iload_n 3, 1) := by decide +kernel
set_option maxRecDepth 20000 in
theorem dX4_setClip_1 : decode cX4_setClip 1 = .ok (.ifCond .ne 18, 3) := by decide +kernel
set_option maxRecDepth 20000 in
theorem dX4_setClip_4 : decode cX4_setClip 4 = .ok (.aload_n 0, 1) := by decide +kernel
set_option maxRecDepth 20000 in
theorem dX4_setClip_5 : decode cX4_setClip 5 = .ok (.getfield 40, 3) := by decide +kernel
set_option maxRecDepth 20000 in
theorem dX4_setClip_8 : decode cX4_setClip 8 = .ok (.iload_n 1, 1) := by decide +kernel
set_option maxRecDepth 20000 in
theorem dX4_setClip_9 : decode cX4_setClip 9 = .ok (.dup2, 1) := by decide +kernel
set_option maxRecDepth 20000 in
theorem dX4_setClip_10 : decode cX4_setClip 10 = .ok (.iaload, 1) := by decide +kernel
set_option maxRecDepth 20000 in
theorem dX4_setClip_11 : decode cX4_setClip 11 = .ok (.iconst 3, 1) := by decide +kernel
set_option maxRecDepth 20000 in
theorem dX4_setClip_12 : decode cX4_setClip 12 = .ok (.iload_n 2, 1) := by decide +kernel
set_option maxRecDepth 20000 in
theorem dX4_setClip_13 : decode cX4_setClip 13 = .ok (.imul, 1) := by decide +kernel
set_option maxRecDepth 20000 in
theorem dX4_setClip_14 : decode cX4_setClip 14 = .ok (.ior, 1) := by decide +kernel
set_option maxRecDepth 20000 in
theorem dX4_setClip_15 : decode cX4_setClip 15 = .ok (.iastore, 1) := by decide +kernel
set_option maxRecDepth 20000 in
theorem dX4_setClip_16 : decode cX4_setClip 16 = .ok (.goto 36, 3) := by decide +kernel
set_option maxRecDepth 20000 in
theorem dX4_setClip_19 : decode cX4_setClip 19 = .ok (.iload_n 3, 1) := by decide +kernel
set_option maxRecDepth 20000 in
theorem dX4_setClip_20 : decode cX4_setClip 20 = .ok (.iconst 1, 1) := by decide +kernel
set_option maxRecDepth 20000 in
theorem dX4_setClip_21 : decode cX4_setClip 21 = .ok (.if_icmp .ne 16, 3) := by decide +kernel
set_option maxRecDepth 20000 in
theorem dX4_setClip_24 : decode cX4_setClip 24 = .ok (.aload_n 0, 1) := by decide +kernel
set_option maxRecDepth 20000 in
theorem dX4_setClip_25 : decode cX4_setClip 25 = .ok (.getfield 43, 3) := by decide +kernel
set_option maxRecDepth 20000 in
theorem dX4_setClip_28 : decode cX4_setClip 28 = .ok (.iload_n 1, 1) := by decide +kernel
set_option maxRecDepth 20000 in
theorem dX4_setClip_29 : decode cX4_setClip 29 = .ok (.dup2, 1) := by decide +kernel
set_option maxRecDepth 20000 in
theorem dX4_setClip_30 : decode cX4_setClip 30 = .ok (.iaload, 1) := by decide +kernel
set_option maxRecDepth 20000 in
theorem dX4_setClip_31 : decode cX4_setClip 31 = .ok (.iload_n 2, 1) := by decide +kernel
set_option maxRecDepth 20000 in
theorem dX4_setClip_32 : decode cX4_setClip 32 = .ok (.ior, 1) := by decide +kernel
set_option maxRecDepth 20000 in
theorem dX4_setClip_33 : decode cX4_setClip 33 = .ok (.iastore, 1) := by decide +kernel
set_option maxRecDepth 20000 in
theorem dX4_setClip_34 : decode cX4_setClip 34 = .ok (.goto 18, 3) := by decide +kernel
set_option maxRecDepth 20000 in
theorem dX4_setClip_37 : decode cX4_setClip 37 = .ok (.iload_n 3, 1) := by decide +kernel
set_option maxRecDepth 20000 in
theorem dX4_setClip_38 : decode cX4_setClip 38 = .ok (.iconst 2, 1) := by decide +kernel
set_option maxRecDepth 20000 in
theorem dX4_setClip_39 : decode cX4_setClip 39 = .ok (.if_icmp .ne 13, 3) := by decide +kernel
set_option maxRecDepth 20000 in
theorem dX4_setClip_42 : decode cX4_setClip 42 = .ok (.aload_n 0, 1) := by decide +kernel
set_option maxRecDepth 20000 in
theorem dX4_setClip_43 : decode cX4_setClip 43 = .ok (.getfield 46, 3) := by decide +kernel
set_option maxRecDepth 20000 in
theorem dX4_setClip_46 : decode cX4_setClip 46 = .ok (.iload_n 1, 1) := by decide +kernel
set_option maxRecDepth 20000 in
theorem dX4_setClip_47 : decode cX4_setClip 47 = .ok (.dup2, 1) := by decide +kernel
set_option maxRecDepth 20000 in
theorem dX4_setClip_48 : decode cX4_setClip 48 = .ok (.iaload, 1) := by decide +kernel
set_option maxRecDepth 20000 in
theorem dX4_setClip_49 : decode cX4_setClip 49 = .ok (.iload_n 2, 1) := by decide +kernel
set_option maxRecDepth 20000 in
theorem dX4_setClip_50 : decode cX4_setClip 50 = .ok (.ior, 1) := by decide +kernel
set_option maxRecDepth 20000 in
theorem dX4_setClip_51 : decode cX4_setClip 51 = .ok (.iastore, 1) := by decide +kernel
set_option maxRecDepth 20000 in
theorem dX4_setClip_52 : decode cX4_setClip 52 = .ok (.return_, 1) := by decide +kernel
def f_X4_setClip (N : Nat) (c_clipAll : Nat → Int32) (c_clipToOne : Nat → Int32) (c_clipToTwo : Nat → Int32) (a1 : Int32) (a2 : Int32) (a3 : Int32) : Option ((Nat → Int32) × (Nat → Int32) × (Nat → Int32)) :=
  (if a3 = 0 then
    (rdI 9 c_clipAll a1).bind fun t8 =>
    (wrI 9 c_clipAll a1 (t8 ||| (3 * a2))).bind fun t9 =>
    some (t9, c_clipToOne, c_clipToTwo)
  else
    (if a3 = 1 then
      (rdI 9 c_clipToOne a1).bind fun t6 =>
      (wrI 9 c_clipToOne a1 (t6 ||| a2)).bind fun t7 =>
      some (c_clipAll, t7, c_clipToTwo)
    else
      (if a3 = 2 then
        (rdI 9 c_clipToTwo a1).bind fun t4 =>
        (wrI 9 c_clipToTwo a1 (t4 ||| a2)).bind fun t5 =>
        some (c_clipAll, c_clipToOne, t5)
      else
        some (c_clipAll, c_clipToOne, c_clipToTwo))))
set_option maxHeartbeats 4000000 in
set_option maxRecDepth 100000 in
theorem c_X4_setClip {N : Nat}  {c_clipAll : Nat → Int32} {c_clipToOne : Nat → Int32} {c_clipToTwo : Nat → Int32} {u_askers : Int32} {u_places : Int32} {u_seatBits : Int32} {u_entries : Int32} {a1 : Int32} {a2 : Int32} {a3 : Int32} {res : (Nat → Int32) × (Nat → Int32) × (Nat → Int32)} (hf : f_X4_setClip N c_clipAll c_clipToOne c_clipToTwo a1 a2 a3 = some res) : Con mu_X4_setClip [.ref 0, .int a1, .int a2, .int a3] (w_X4_setClip c_clipAll c_clipToOne c_clipToTwo u_askers u_places u_seatBits u_entries) (none) (w_X4_setClip res.1 res.2.1 res.2.2 u_askers u_places u_seatBits u_entries) := by
  refine Con.mk (show plainName RX4 = true by decide +kernel) (leb rfl) (fun κ ω A ad => ?_)
  change GG mu_X4_setClip κ ω A (QR κ ω A ad (none) (w_X4_setClip res.1 res.2.1 res.2.2 u_askers u_places u_seatBits u_entries)) ad 0 0 0 (w_X4_setClip c_clipAll c_clipToOne c_clipToTwo u_askers u_places u_seatBits u_entries) [some (.ref 0), some (.int a1), some (.int a2), some (.int a3)] []
  refine G_iload_n dX4_setClip_0 rfl rfl ?_
  refine G_if_ne 19 dX4_setClip_1 (by decide) (fun h1 => ?_) (fun h1 => ?_)
  · replace hf := ob_f h1 hf
    refine G_iload_n dX4_setClip_19 rfl rfl ?_
    refine G_iconst 1 dX4_setClip_20 (by decide) ?_
    refine G_icmp_ne 37 dX4_setClip_21 (by decide) (fun h2 => ?_) (fun h2 => ?_)
    · replace hf := ob_f h2 hf
      refine G_iload_n dX4_setClip_37 rfl rfl ?_
      refine G_iconst 2 dX4_setClip_38 (by decide) ?_
      refine G_icmp_ne 52 dX4_setClip_39 (by decide) (fun h3 => ?_) (fun h3 => ?_)
      · replace hf := ob_f h3 hf
        obtain rfl := os hf
        exact G_return dX4_setClip_52 rfl
      · replace hf := ob_t h3 hf
        refine G_aload_n dX4_setClip_42 rfl rfl ?_
        refine G_get (v := .ref 3) F_X4_46 dX4_setClip_43 rfl rfl ?_
        refine G_iload_n dX4_setClip_46 rfl rfl ?_
        refine G_dup2 dX4_setClip_47 rfl rfl ?_
        obtain ⟨t4, ht4, hf⟩ := ob hf
        refine G_iald dX4_setClip_48 rfl ht4 ?_
        refine G_iload_n dX4_setClip_49 rfl rfl ?_
        refine G_ior dX4_setClip_50 ?_
        obtain ⟨t5, ht5, hf⟩ := ob hf
        refine G_iast (w2 := (w_X4_setClip c_clipAll c_clipToOne t5 u_askers u_places u_seatBits u_entries)) dX4_setClip_51 rfl ht5 rfl ?_
        obtain rfl := os hf
        exact G_return dX4_setClip_52 rfl
    · replace hf := ob_t h2 hf
      refine G_aload_n dX4_setClip_24 rfl rfl ?_
      refine G_get (v := .ref 2) F_X4_43 dX4_setClip_25 rfl rfl ?_
      refine G_iload_n dX4_setClip_28 rfl rfl ?_
      refine G_dup2 dX4_setClip_29 rfl rfl ?_
      obtain ⟨t6, ht6, hf⟩ := ob hf
      refine G_iald dX4_setClip_30 rfl ht6 ?_
      refine G_iload_n dX4_setClip_31 rfl rfl ?_
      refine G_ior dX4_setClip_32 ?_
      obtain ⟨t7, ht7, hf⟩ := ob hf
      refine G_iast (w2 := (w_X4_setClip c_clipAll t7 c_clipToTwo u_askers u_places u_seatBits u_entries)) dX4_setClip_33 rfl ht7 rfl ?_
      refine G_goto 52 dX4_setClip_34 (by decide) ?_
      obtain rfl := os hf
      exact G_return dX4_setClip_52 rfl
  · replace hf := ob_t h1 hf
    refine G_aload_n dX4_setClip_4 rfl rfl ?_
    refine G_get (v := .ref 1) F_X4_40 dX4_setClip_5 rfl rfl ?_
    refine G_iload_n dX4_setClip_8 rfl rfl ?_
    refine G_dup2 dX4_setClip_9 rfl rfl ?_
    obtain ⟨t8, ht8, hf⟩ := ob hf
    refine G_iald dX4_setClip_10 rfl ht8 ?_
    refine G_iconst 3 dX4_setClip_11 (by decide) ?_
    refine G_iload_n dX4_setClip_12 rfl rfl ?_
    refine G_imul dX4_setClip_13 ?_
    refine G_ior dX4_setClip_14 ?_
    obtain ⟨t9, ht9, hf⟩ := ob hf
    refine G_iast (w2 := (w_X4_setClip t9 c_clipToOne c_clipToTwo u_askers u_places u_seatBits u_entries)) dX4_setClip_15 rfl ht9 rfl ?_
    refine G_goto 52 dX4_setClip_16 (by decide) ?_
    obtain rfl := os hf
    exact G_return dX4_setClip_52 rfl
set_option maxRecDepth 20000 in
theorem dX4_setClips_0 : decode cX4_setClips 0 = .ok (.iconst 0, 1) := by decide +kernel
set_option maxRecDepth 20000 in
theorem dX4_setClips_1 : decode cX4_setClips 1 = .ok (.istore_n 1, 1) := by decide +kernel
set_option maxRecDepth 20000 in
theorem dX4_setClips_2 : decode cX4_setClips 2 = .ok (.iload_n 1, 1) := by decide +kernel
set_option maxRecDepth 20000 in
theorem dX4_setClips_3 : decode cX4_setClips 3 = .ok (.aload_n 0, 1) := by decide +kernel
set_option maxRecDepth 20000 in
theorem dX4_setClips_4 : decode cX4_setClips 4 = .ok (.getfield 49, 3) := by decide +kernel
set_option maxRecDepth 20000 in
theorem dX4_setClips_7 : decode cX4_setClips 7 = .ok (.if_icmp .gt 30, 3) := by decide +kernel
set_option maxRecDepth 20000 in
theorem dX4_setClips_10 : decode cX4_setClips 10 = .ok (.aload_n 0, 1) := by decide +kernel
set_option maxRecDepth 20000 in
theorem dX4_setClips_11 : decode cX4_setClips 11 = .ok (.getfield 40, 3) := by decide +kernel
set_option maxRecDepth 20000 in
theorem dX4_setClips_14 : decode cX4_setClips 14 = .ok (.iload_n 1, 1) := by decide +kernel
set_option maxRecDepth 20000 in
theorem dX4_setClips_15 : decode cX4_setClips 15 = .ok (.iconst 0, 1) := by decide +kernel
set_option maxRecDepth 20000 in
theorem dX4_setClips_16 : decode cX4_setClips 16 = .ok (.iastore, 1) := by decide +kernel
set_option maxRecDepth 20000 in
theorem dX4_setClips_17 : decode cX4_setClips 17 = .ok (.aload_n 0, 1) := by decide +kernel
set_option maxRecDepth 20000 in
theorem dX4_setClips_18 : decode cX4_setClips 18 = .ok (.getfield 43, 3) := by decide +kernel
set_option maxRecDepth 20000 in
theorem dX4_setClips_21 : decode cX4_setClips 21 = .ok (.iload_n 1, 1) := by decide +kernel
set_option maxRecDepth 20000 in
theorem dX4_setClips_22 : decode cX4_setClips 22 = .ok (.iconst 0, 1) := by decide +kernel
set_option maxRecDepth 20000 in
theorem dX4_setClips_23 : decode cX4_setClips 23 = .ok (.iastore, 1) := by decide +kernel
set_option maxRecDepth 20000 in
theorem dX4_setClips_24 : decode cX4_setClips 24 = .ok (.aload_n 0, 1) := by decide +kernel
set_option maxRecDepth 20000 in
theorem dX4_setClips_25 : decode cX4_setClips 25 = .ok (.getfield 46, 3) := by decide +kernel
set_option maxRecDepth 20000 in
theorem dX4_setClips_28 : decode cX4_setClips 28 = .ok (.iload_n 1, 1) := by decide +kernel
set_option maxRecDepth 20000 in
theorem dX4_setClips_29 : decode cX4_setClips 29 = .ok (.iconst 0, 1) := by decide +kernel
set_option maxRecDepth 20000 in
theorem dX4_setClips_30 : decode cX4_setClips 30 = .ok (.iastore, 1) := by decide +kernel
set_option maxRecDepth 20000 in
theorem dX4_setClips_31 : decode cX4_setClips 31 = .ok (.iinc 1 1, 3) := by decide +kernel
set_option maxRecDepth 20000 in
theorem dX4_setClips_34 : decode cX4_setClips 34 = .ok (.goto (-32), 3) := by decide +kernel
set_option maxRecDepth 20000 in
theorem dX4_setClips_37 : decode cX4_setClips 37 = .ok (.iconst 0, 1) := by decide +kernel
set_option maxRecDepth 20000 in
theorem dX4_setClips_38 : decode cX4_setClips 38 = .ok (.istore_n 1, 1) := by decide +kernel
set_option maxRecDepth 20000 in
theorem dX4_setClips_39 : decode cX4_setClips 39 = .ok (.iload_n 1, 1) := by decide +kernel
set_option maxRecDepth 20000 in
theorem dX4_setClips_40 : decode cX4_setClips 40 = .ok (.aload_n 0, 1) := by decide +kernel
set_option maxRecDepth 20000 in
theorem dX4_setClips_41 : decode cX4_setClips 41 = .ok (.getfield 63, 3) := by decide +kernel
set_option maxRecDepth 20000 in
theorem dX4_setClips_44 : decode cX4_setClips 44 = .ok (.if_icmp .ge 66, 3) := by decide +kernel
set_option maxRecDepth 20000 in
theorem dX4_setClips_47 : decode cX4_setClips 47 = .ok (.iconst 0, 1) := by decide +kernel
set_option maxRecDepth 20000 in
theorem dX4_setClips_48 : decode cX4_setClips 48 = .ok (.istore_n 2, 1) := by decide +kernel
set_option maxRecDepth 20000 in
theorem dX4_setClips_49 : decode cX4_setClips 49 = .ok (.aload_n 0, 1) := by decide +kernel
set_option maxRecDepth 20000 in
theorem dX4_setClips_50 : decode cX4_setClips 50 = .ok (.getfield 49, 3) := by decide +kernel
set_option maxRecDepth 20000 in
theorem dX4_setClips_53 : decode cX4_setClips 53 = .ok (.istore_n 3, 1) := by decide +kernel
set_option maxRecDepth 20000 in
theorem dX4_setClips_54 : decode cX4_setClips 54 = .ok (.iload_n 3, 1) := by decide +kernel
set_option maxRecDepth 20000 in
theorem dX4_setClips_55 : decode cX4_setClips 55 = .ok (.ifCond .lt 49, 3) := by decide +kernel
set_option maxRecDepth 20000 in
theorem dX4_setClips_58 : decode cX4_setClips 58 = .ok (.iload_n 3, 1) := by decide +kernel
set_option maxRecDepth 20000 in
theorem dX4_setClips_59 : decode cX4_setClips 59 = .ok (.aload_n 0, 1) := by decide +kernel
set_option maxRecDepth 20000 in
theorem dX4_setClips_60 : decode cX4_setClips 60 = .ok (.getfield 49, 3) := by decide +kernel
set_option maxRecDepth 20000 in
theorem dX4_setClips_63 : decode cX4_setClips 63 = .ok (.if_icmp .ge 24, 3) := by decide +kernel
set_option maxRecDepth 20000 in
theorem dX4_setClips_66 : decode cX4_setClips 66 = .ok (.aload_n 0, 1) := by decide +kernel
set_option maxRecDepth 20000 in
theorem dX4_setClips_67 : decode cX4_setClips 67 = .ok (.getfield 19, 3) := by decide +kernel
set_option maxRecDepth 20000 in
theorem dX4_setClips_70 : decode cX4_setClips 70 = .ok (.iload_n 3, 1) := by decide +kernel
set_option maxRecDepth 20000 in
theorem dX4_setClips_71 : decode cX4_setClips 71 = .ok (.bipush 7, 2) := by decide +kernel
set_option maxRecDepth 20000 in
theorem dX4_setClips_73 : decode cX4_setClips 73 = .ok (.imul, 1) := by decide +kernel
set_option maxRecDepth 20000 in
theorem dX4_setClips_74 : decode cX4_setClips 74 = .ok (.iload_n 1, 1) := by decide +kernel
set_option maxRecDepth 20000 in
theorem dX4_setClips_75 : decode cX4_setClips 75 = .ok (.iadd, 1) := by decide +kernel
set_option maxRecDepth 20000 in
theorem dX4_setClips_76 : decode cX4_setClips 76 = .ok (.iconst 1, 1) := by decide +kernel
set_option maxRecDepth 20000 in
theorem dX4_setClips_77 : decode cX4_setClips 77 = .ok (.iadd, 1) := by decide +kernel
set_option maxRecDepth 20000 in
theorem dX4_setClips_78 : decode cX4_setClips 78 = .ok (.iaload, 1) := by decide +kernel
set_option maxRecDepth 20000 in
theorem dX4_setClips_79 : decode cX4_setClips 79 = .ok (.ldc 85, 2) := by decide +kernel
set_option maxRecDepth 20000 in
theorem dX4_setClips_81 : decode cX4_setClips 81 = .ok (.if_icmp .eq 6, 3) := by decide +kernel
set_option maxRecDepth 20000 in
theorem dX4_setClips_84 : decode cX4_setClips 84 = .ok (.iinc 2 1, 3) := by decide +kernel
set_option maxRecDepth 20000 in
theorem dX4_setClips_87 : decode cX4_setClips 87 = .ok (.aload_n 0, 1) := by decide +kernel
set_option maxRecDepth 20000 in
theorem dX4_setClips_88 : decode cX4_setClips 88 = .ok (.iload_n 3, 1) := by decide +kernel
set_option maxRecDepth 20000 in
theorem dX4_setClips_89 : decode cX4_setClips 89 = .ok (.iconst 1, 1) := by decide +kernel
set_option maxRecDepth 20000 in
theorem dX4_setClips_90 : decode cX4_setClips 90 = .ok (.iconst 2, 1) := by decide +kernel
set_option maxRecDepth 20000 in
theorem dX4_setClips_91 : decode cX4_setClips 91 = .ok (.iload_n 1, 1) := by decide +kernel
set_option maxRecDepth 20000 in
theorem dX4_setClips_92 : decode cX4_setClips 92 = .ok (.imul, 1) := by decide +kernel
set_option maxRecDepth 20000 in
theorem dX4_setClips_93 : decode cX4_setClips 93 = .ok (.ishl, 1) := by decide +kernel
set_option maxRecDepth 20000 in
theorem dX4_setClips_94 : decode cX4_setClips 94 = .ok (.iload_n 2, 1) := by decide +kernel
set_option maxRecDepth 20000 in
theorem dX4_setClips_95 : decode cX4_setClips 95 = .ok (.invokevirtual 86, 3) := by decide +kernel
set_option maxRecDepth 20000 in
theorem dX4_setClips_98 : decode cX4_setClips 98 = .ok (.iinc 3 (-1), 3) := by decide +kernel
set_option maxRecDepth 20000 in
theorem dX4_setClips_101 : decode cX4_setClips 101 = .ok (.goto (-47), 3) := by decide +kernel
set_option maxRecDepth 20000 in
theorem dX4_setClips_104 : decode cX4_setClips 104 = .ok (.iinc 1 1, 3) := by decide +kernel
set_option maxRecDepth 20000 in
theorem dX4_setClips_107 : decode cX4_setClips 107 = .ok (.goto (-68), 3) := by decide +kernel
set_option maxRecDepth 20000 in
theorem dX4_setClips_110 : decode cX4_setClips 110 = .ok (.return_, 1) := by decide +kernel
def f_X4_setClips_87 (N : Nat) (c_askers : Int32) (c_places : Int32) (c_gains : Nat → Int32) (k54 : (Nat → Int32) → (Nat → Int32) → (Nat → Int32) → Int32 → Int32 → Int32 → Option ((Nat → Int32) × (Nat → Int32) × (Nat → Int32))) (c_clipAll : Nat → Int32) (c_clipToOne : Nat → Int32) (c_clipToTwo : Nat → Int32) (v1 : Int32) (v2 : Int32) (v3 : Int32) : Option ((Nat → Int32) × (Nat → Int32) × (Nat → Int32)) :=
    (f_X4_setClip N c_clipAll c_clipToOne c_clipToTwo v3 ((1 : Int32) <<< ((2 * v1) &&& 31)) v2).bind fun (o1, o2, o3) =>
    k54 o1 o2 o3 v1 v2 (v3 + (-1))
set_option maxHeartbeats 4000000 in
set_option maxRecDepth 100000 in
theorem g_X4_setClips_87 {κ : KC} {ω : KW} {A : Nat → Prop} {ad : Nat → Nat} {u_seatBits : Int32} {u_entries : Int32} {N : Nat} {c_askers : Int32} {c_places : Int32} {c_gains : Nat → Int32}  {k54 : (Nat → Int32) → (Nat → Int32) → (Nat → Int32) → Int32 → Int32 → Int32 → Option ((Nat → Int32) × (Nat → Int32) × (Nat → Int32))} {res : (Nat → Int32) × (Nat → Int32) × (Nat → Int32)} (hk54 : ∀ {c_clipAll : Nat → Int32} {c_clipToOne : Nat → Int32} {c_clipToTwo : Nat → Int32} {v1 : Int32} {v2 : Int32} {v3 : Int32}, k54 c_clipAll c_clipToOne c_clipToTwo v1 v2 v3 = some res → GG mu_X4_setClips κ ω A (QR κ ω A ad (none) (w_X4_setClips c_askers c_places res.1 res.2.1 res.2.2 c_gains u_seatBits u_entries)) ad 0 0 54 (w_X4_setClips c_askers c_places c_clipAll c_clipToOne c_clipToTwo c_gains u_seatBits u_entries) [some (.ref 0), some (.int v1), some (.int v2), some (.int v3)] []) {c_clipAll : Nat → Int32} {c_clipToOne : Nat → Int32} {c_clipToTwo : Nat → Int32} {v1 : Int32} {v2 : Int32} {v3 : Int32} (hf : f_X4_setClips_87 N c_askers c_places c_gains k54 c_clipAll c_clipToOne c_clipToTwo v1 v2 v3 = some res) : GG mu_X4_setClips κ ω A (QR κ ω A ad (none) (w_X4_setClips c_askers c_places res.1 res.2.1 res.2.2 c_gains u_seatBits u_entries)) ad 0 0 87 (w_X4_setClips c_askers c_places c_clipAll c_clipToOne c_clipToTwo c_gains u_seatBits u_entries) [some (.ref 0), some (.int v1), some (.int v2), some (.int v3)] [] := by
  refine G_aload_n dX4_setClips_87 rfl rfl ?_
  refine G_iload_n dX4_setClips_88 rfl rfl ?_
  refine G_iconst 1 dX4_setClips_89 (by decide) ?_
  refine G_iconst 2 dX4_setClips_90 (by decide) ?_
  refine G_iload_n dX4_setClips_91 rfl rfl ?_
  refine G_imul dX4_setClips_92 ?_
  refine G_ishl dX4_setClips_93 ?_
  refine G_iload_n dX4_setClips_94 rfl rfl ?_
  obtain ⟨⟨o1, o2, o3⟩, hc4, hf⟩ := ob hf
  refine G_callV (μ2 := mu_X4_setClip) (As := [.int v3, .int ((1 : Int32) <<< ((2 * v1) &&& 31)), .int v2]) (w2 := (w_X4_setClips c_askers c_places o1 o2 o3 c_gains u_seatBits u_entries)) (wc := (w_X4_setClip c_clipAll c_clipToOne c_clipToTwo c_askers c_places u_seatBits u_entries)) (wc2 := (w_X4_setClip o1 o2 o3 c_askers c_places u_seatBits u_entries)) (rest := []) (rv := []) [0, 1, 2, 3] [1000, 4, 1001, 1002, 1003, 1004, 1005, 1006, 1007] [4] [1, 2, 3, 4, 0] (c_X4_setClip hc4) cw_X4_setClip m_X4_86 dX4_setClips_95 rfl ⟨leb rfl, leb rfl⟩ ⟨rfl, rfl⟩ rfl ⟨_, rfl, rfl⟩ (Fit.mk rfl rfl rfl) rfl (leb rfl) (ROsub.nil rfl rfl) rfl ?_
  change GG _ _ _ _ _ _ _ _ _ (w_X4_setClips c_askers c_places o1 o2 o3 c_gains u_seatBits u_entries) [some (.ref 0), some (.int v1), some (.int v2), some (.int v3)] []
  refine G_iinc (-1) dX4_setClips_98 (by decide) rfl (ltb rfl) ?_
  change GG _ _ _ _ _ _ _ _ _ _ [some (.ref 0), some (.int v1), some (.int v2), some (.int (v3 + (-1)))] _
  refine G_goto 54 dX4_setClips_101 (by decide) ?_
  exact hk54 hf
def f_X4_setClips_54 (N : Nat) (c_askers : Int32) (c_places : Int32) (c_gains : Nat → Int32) (k39 : (Nat → Int32) → (Nat → Int32) → (Nat → Int32) → Int32 → Option ((Nat → Int32) × (Nat → Int32) × (Nat → Int32))) : Nat → (Nat → Int32) → (Nat → Int32) → (Nat → Int32) → Int32 → Int32 → Int32 → Option ((Nat → Int32) × (Nat → Int32) × (Nat → Int32))
  | 0, _, _, _, _, _, _ => none
  | n + 1, c_clipAll, c_clipToOne, c_clipToTwo, v1, v2, v3 =>
    (if v3 < 0 then
      k39 c_clipAll c_clipToOne c_clipToTwo (v1 + 1)
    else
      (if c_askers ≤ v3 then
        f_X4_setClips_87 N c_askers c_places c_gains (f_X4_setClips_54 N c_askers c_places c_gains k39 n) c_clipAll c_clipToOne c_clipToTwo v1 v2 v3
      else
        (rdI 56 c_gains (((v3 * 7) + v1) + 1)).bind fun t3 =>
        (if t3 = (-2000000000 : Int32) then
          f_X4_setClips_87 N c_askers c_places c_gains (f_X4_setClips_54 N c_askers c_places c_gains k39 n) c_clipAll c_clipToOne c_clipToTwo v1 v2 v3
        else
          f_X4_setClips_87 N c_askers c_places c_gains (f_X4_setClips_54 N c_askers c_places c_gains k39 n) c_clipAll c_clipToOne c_clipToTwo v1 (v2 + 1) v3)))
set_option maxHeartbeats 4000000 in
set_option maxRecDepth 100000 in
theorem g_X4_setClips_54 {κ : KC} {ω : KW} {A : Nat → Prop} {ad : Nat → Nat} {u_seatBits : Int32} {u_entries : Int32} {N : Nat} {c_askers : Int32} {c_places : Int32} {c_gains : Nat → Int32}  {k39 : (Nat → Int32) → (Nat → Int32) → (Nat → Int32) → Int32 → Option ((Nat → Int32) × (Nat → Int32) × (Nat → Int32))} {res : (Nat → Int32) × (Nat → Int32) × (Nat → Int32)} (hk39 : ∀ {c_clipAll : Nat → Int32} {c_clipToOne : Nat → Int32} {c_clipToTwo : Nat → Int32} {v1 : Int32}, k39 c_clipAll c_clipToOne c_clipToTwo v1 = some res → GG mu_X4_setClips κ ω A (QR κ ω A ad (none) (w_X4_setClips c_askers c_places res.1 res.2.1 res.2.2 c_gains u_seatBits u_entries)) ad 0 0 39 (w_X4_setClips c_askers c_places c_clipAll c_clipToOne c_clipToTwo c_gains u_seatBits u_entries) [some (.ref 0), some (.int v1), none, none] []) : ∀ (n : Nat) {c_clipAll : Nat → Int32} {c_clipToOne : Nat → Int32} {c_clipToTwo : Nat → Int32} {v1 : Int32} {v2 : Int32} {v3 : Int32}, f_X4_setClips_54 N c_askers c_places c_gains k39 n c_clipAll c_clipToOne c_clipToTwo v1 v2 v3 = some res → GG mu_X4_setClips κ ω A (QR κ ω A ad (none) (w_X4_setClips c_askers c_places res.1 res.2.1 res.2.2 c_gains u_seatBits u_entries)) ad 0 0 54 (w_X4_setClips c_askers c_places c_clipAll c_clipToOne c_clipToTwo c_gains u_seatBits u_entries) [some (.ref 0), some (.int v1), some (.int v2), some (.int v3)] [] := by
  intro n
  induction n with
  | zero => intro c_clipAll c_clipToOne c_clipToTwo v1 v2 v3 hf; exact ob_0 hf
  | succ n ih =>
    intro c_clipAll c_clipToOne c_clipToTwo v1 v2 v3 hf
    refine G_iload_n dX4_setClips_54 rfl rfl ?_
    refine G_if_lt 104 dX4_setClips_55 (by decide) (fun h1 => ?_) (fun h1 => ?_)
    · replace hf := ob_t h1 hf
      refine G_iinc 1 dX4_setClips_104 (by decide) rfl (ltb rfl) ?_
      change GG _ _ _ _ _ _ _ _ _ _ [some (.ref 0), some (.int (v1 + 1)), some (.int v2), some (.int v3)] _
      refine G_goto 39 dX4_setClips_107 (by decide) ?_
      refine GG.sb (lv2 := [some (.ref 0), some (.int (v1 + 1)), none, none]) ?_ (lvS_v rfl (lvS_v rfl (lvS_n (lvS_n (lvS_e)))))
      exact hk39 hf
    · replace hf := ob_f h1 hf
      refine G_iload_n dX4_setClips_58 rfl rfl ?_
      refine G_aload_n dX4_setClips_59 rfl rfl ?_
      refine G_get (v := .int c_askers) F_X4_49 dX4_setClips_60 rfl rfl ?_
      refine G_icmp_ge 87 dX4_setClips_63 (by decide) (fun h2 => ?_) (fun h2 => ?_)
      · replace hf := ob_t h2 hf
        exact g_X4_setClips_87 ih hf
      · replace hf := ob_f h2 hf
        refine G_aload_n dX4_setClips_66 rfl rfl ?_
        refine G_get (v := .ref 4) F_X4_19 dX4_setClips_67 rfl rfl ?_
        refine G_iload_n dX4_setClips_70 rfl rfl ?_
        refine G_bipush 7 dX4_setClips_71 (by decide) ?_
        refine G_imul dX4_setClips_73 ?_
        refine G_iload_n dX4_setClips_74 rfl rfl ?_
        refine G_iadd dX4_setClips_75 ?_
        refine G_iconst 1 dX4_setClips_76 (by decide) ?_
        refine G_iadd dX4_setClips_77 ?_
        obtain ⟨t3, ht3, hf⟩ := ob hf
        refine G_iald dX4_setClips_78 rfl ht3 ?_
        refine G_ldc (v := (-2000000000 : Int32)) dX4_setClips_79 k_X4_85 ?_
        refine G_icmp_eq 87 dX4_setClips_81 (by decide) (fun h4 => ?_) (fun h4 => ?_)
        · replace hf := ob_t h4 hf
          exact g_X4_setClips_87 ih hf
        · replace hf := ob_f h4 hf
          refine G_iinc 1 dX4_setClips_84 (by decide) rfl (ltb rfl) ?_
          change GG _ _ _ _ _ _ _ _ _ _ [some (.ref 0), some (.int v1), some (.int (v2 + 1)), some (.int v3)] _
          exact g_X4_setClips_87 ih hf
def f_X4_setClips_39 (N : Nat) (c_askers : Int32) (c_places : Int32) (c_gains : Nat → Int32) : Nat → (Nat → Int32) → (Nat → Int32) → (Nat → Int32) → Int32 → Option ((Nat → Int32) × (Nat → Int32) × (Nat → Int32))
  | 0, _, _, _, _ => none
  | n + 1, c_clipAll, c_clipToOne, c_clipToTwo, v1 =>
    (if c_places ≤ v1 then
      some (c_clipAll, c_clipToOne, c_clipToTwo)
    else
      f_X4_setClips_54 N c_askers c_places c_gains (f_X4_setClips_39 N c_askers c_places c_gains n) N c_clipAll c_clipToOne c_clipToTwo v1 0 c_askers)
set_option maxHeartbeats 4000000 in
set_option maxRecDepth 100000 in
theorem g_X4_setClips_39 {κ : KC} {ω : KW} {A : Nat → Prop} {ad : Nat → Nat} {u_seatBits : Int32} {u_entries : Int32} {N : Nat} {c_askers : Int32} {c_places : Int32} {c_gains : Nat → Int32}  {res : (Nat → Int32) × (Nat → Int32) × (Nat → Int32)} : ∀ (n : Nat) {c_clipAll : Nat → Int32} {c_clipToOne : Nat → Int32} {c_clipToTwo : Nat → Int32} {v1 : Int32}, f_X4_setClips_39 N c_askers c_places c_gains n c_clipAll c_clipToOne c_clipToTwo v1 = some res → GG mu_X4_setClips κ ω A (QR κ ω A ad (none) (w_X4_setClips c_askers c_places res.1 res.2.1 res.2.2 c_gains u_seatBits u_entries)) ad 0 0 39 (w_X4_setClips c_askers c_places c_clipAll c_clipToOne c_clipToTwo c_gains u_seatBits u_entries) [some (.ref 0), some (.int v1), none, none] [] := by
  intro n
  induction n with
  | zero => intro c_clipAll c_clipToOne c_clipToTwo v1 hf; exact ob_0 hf
  | succ n ih =>
    intro c_clipAll c_clipToOne c_clipToTwo v1 hf
    refine G_iload_n dX4_setClips_39 rfl rfl ?_
    refine G_aload_n dX4_setClips_40 rfl rfl ?_
    refine G_get (v := .int c_places) F_X4_63 dX4_setClips_41 rfl rfl ?_
    refine G_icmp_ge 110 dX4_setClips_44 (by decide) (fun h1 => ?_) (fun h1 => ?_)
    · replace hf := ob_t h1 hf
      obtain rfl := os hf
      exact G_return dX4_setClips_110 rfl
    · replace hf := ob_f h1 hf
      refine G_iconst 0 dX4_setClips_47 (by decide) ?_
      refine G_istore_n dX4_setClips_48 rfl (ltb rfl) ?_
      change GG _ _ _ _ _ _ _ _ _ _ [some (.ref 0), some (.int v1), some (.int 0), none] _
      refine G_aload_n dX4_setClips_49 rfl rfl ?_
      refine G_get (v := .int c_askers) F_X4_49 dX4_setClips_50 rfl rfl ?_
      refine G_istore_n dX4_setClips_53 rfl (ltb rfl) ?_
      change GG _ _ _ _ _ _ _ _ _ _ [some (.ref 0), some (.int v1), some (.int 0), some (.int c_askers)] _
      exact g_X4_setClips_54 ih N hf
def f_X4_setClips_2 (N : Nat) (c_askers : Int32) (c_places : Int32) (c_gains : Nat → Int32) : Nat → (Nat → Int32) → (Nat → Int32) → (Nat → Int32) → Int32 → Option ((Nat → Int32) × (Nat → Int32) × (Nat → Int32))
  | 0, _, _, _, _ => none
  | n + 1, c_clipAll, c_clipToOne, c_clipToTwo, v1 =>
    (if c_askers < v1 then
      f_X4_setClips_39 N c_askers c_places c_gains N c_clipAll c_clipToOne c_clipToTwo 0
    else
      (wrI 9 c_clipAll v1 0).bind fun t2 =>
      (wrI 9 c_clipToOne v1 0).bind fun t3 =>
      (wrI 9 c_clipToTwo v1 0).bind fun t4 =>
      f_X4_setClips_2 N c_askers c_places c_gains n t2 t3 t4 (v1 + 1))
set_option maxHeartbeats 4000000 in
set_option maxRecDepth 100000 in
theorem g_X4_setClips_2 {κ : KC} {ω : KW} {A : Nat → Prop} {ad : Nat → Nat} {u_seatBits : Int32} {u_entries : Int32} {N : Nat} {c_askers : Int32} {c_places : Int32} {c_gains : Nat → Int32}  {res : (Nat → Int32) × (Nat → Int32) × (Nat → Int32)} : ∀ (n : Nat) {c_clipAll : Nat → Int32} {c_clipToOne : Nat → Int32} {c_clipToTwo : Nat → Int32} {v1 : Int32}, f_X4_setClips_2 N c_askers c_places c_gains n c_clipAll c_clipToOne c_clipToTwo v1 = some res → GG mu_X4_setClips κ ω A (QR κ ω A ad (none) (w_X4_setClips c_askers c_places res.1 res.2.1 res.2.2 c_gains u_seatBits u_entries)) ad 0 0 2 (w_X4_setClips c_askers c_places c_clipAll c_clipToOne c_clipToTwo c_gains u_seatBits u_entries) [some (.ref 0), some (.int v1), none, none] [] := by
  intro n
  induction n with
  | zero => intro c_clipAll c_clipToOne c_clipToTwo v1 hf; exact ob_0 hf
  | succ n ih =>
    intro c_clipAll c_clipToOne c_clipToTwo v1 hf
    refine G_iload_n dX4_setClips_2 rfl rfl ?_
    refine G_aload_n dX4_setClips_3 rfl rfl ?_
    refine G_get (v := .int c_askers) F_X4_49 dX4_setClips_4 rfl rfl ?_
    refine G_icmp_gt 37 dX4_setClips_7 (by decide) (fun h1 => ?_) (fun h1 => ?_)
    · replace hf := ob_t h1 hf
      refine G_iconst 0 dX4_setClips_37 (by decide) ?_
      refine G_istore_n dX4_setClips_38 rfl (ltb rfl) ?_
      change GG _ _ _ _ _ _ _ _ _ _ [some (.ref 0), some (.int 0), none, none] _
      exact g_X4_setClips_39 N hf
    · replace hf := ob_f h1 hf
      refine G_aload_n dX4_setClips_10 rfl rfl ?_
      refine G_get (v := .ref 1) F_X4_40 dX4_setClips_11 rfl rfl ?_
      refine G_iload_n dX4_setClips_14 rfl rfl ?_
      refine G_iconst 0 dX4_setClips_15 (by decide) ?_
      obtain ⟨t2, ht2, hf⟩ := ob hf
      refine G_iast (w2 := (w_X4_setClips c_askers c_places t2 c_clipToOne c_clipToTwo c_gains u_seatBits u_entries)) dX4_setClips_16 rfl ht2 rfl ?_
      refine G_aload_n dX4_setClips_17 rfl rfl ?_
      refine G_get (v := .ref 2) F_X4_43 dX4_setClips_18 rfl rfl ?_
      refine G_iload_n dX4_setClips_21 rfl rfl ?_
      refine G_iconst 0 dX4_setClips_22 (by decide) ?_
      obtain ⟨t3, ht3, hf⟩ := ob hf
      refine G_iast (w2 := (w_X4_setClips c_askers c_places t2 t3 c_clipToTwo c_gains u_seatBits u_entries)) dX4_setClips_23 rfl ht3 rfl ?_
      refine G_aload_n dX4_setClips_24 rfl rfl ?_
      refine G_get (v := .ref 3) F_X4_46 dX4_setClips_25 rfl rfl ?_
      refine G_iload_n dX4_setClips_28 rfl rfl ?_
      refine G_iconst 0 dX4_setClips_29 (by decide) ?_
      obtain ⟨t4, ht4, hf⟩ := ob hf
      refine G_iast (w2 := (w_X4_setClips c_askers c_places t2 t3 t4 c_gains u_seatBits u_entries)) dX4_setClips_30 rfl ht4 rfl ?_
      refine G_iinc 1 dX4_setClips_31 (by decide) rfl (ltb rfl) ?_
      change GG _ _ _ _ _ _ _ _ _ _ [some (.ref 0), some (.int (v1 + 1)), none, none] _
      refine G_goto 2 dX4_setClips_34 (by decide) ?_
      exact ih hf
def f_X4_setClips (N : Nat) (c_askers : Int32) (c_places : Int32) (c_gains : Nat → Int32) (c_clipAll : Nat → Int32) (c_clipToOne : Nat → Int32) (c_clipToTwo : Nat → Int32)  : Option ((Nat → Int32) × (Nat → Int32) × (Nat → Int32)) :=
  f_X4_setClips_2 N c_askers c_places c_gains N c_clipAll c_clipToOne c_clipToTwo 0
set_option maxHeartbeats 4000000 in
set_option maxRecDepth 100000 in
theorem c_X4_setClips {N : Nat} {c_askers : Int32} {c_places : Int32} {c_gains : Nat → Int32} {c_clipAll : Nat → Int32} {c_clipToOne : Nat → Int32} {c_clipToTwo : Nat → Int32} {u_seatBits : Int32} {u_entries : Int32}  {res : (Nat → Int32) × (Nat → Int32) × (Nat → Int32)} (hf : f_X4_setClips N c_askers c_places c_gains c_clipAll c_clipToOne c_clipToTwo = some res) : Con mu_X4_setClips [.ref 0] (w_X4_setClips c_askers c_places c_clipAll c_clipToOne c_clipToTwo c_gains u_seatBits u_entries) (none) (w_X4_setClips c_askers c_places res.1 res.2.1 res.2.2 c_gains u_seatBits u_entries) := by
  refine Con.mk (show plainName RX4 = true by decide +kernel) (leb rfl) (fun κ ω A ad => ?_)
  change GG mu_X4_setClips κ ω A (QR κ ω A ad (none) (w_X4_setClips c_askers c_places res.1 res.2.1 res.2.2 c_gains u_seatBits u_entries)) ad 0 0 0 (w_X4_setClips c_askers c_places c_clipAll c_clipToOne c_clipToTwo c_gains u_seatBits u_entries) [some (.ref 0), none, none, none] []
  refine G_iconst 0 dX4_setClips_0 (by decide) ?_
  refine G_istore_n dX4_setClips_1 rfl (ltb rfl) ?_
  change GG _ _ _ _ _ _ _ _ _ _ [some (.ref 0), some (.int 0), none, none] _
  exact g_X4_setClips_2 N hf
set_option maxRecDepth 20000 in
theorem dX4_entryOf_0 : decode cX4_entryOf 0 = .ok (.aload_n 0, 1) := by decide +kernel
set_option maxRecDepth 20000 in
theorem dX4_entryOf_1 : decode cX4_entryOf 1 = .ok (.getfield 43, 3) := by decide +kernel
set_option maxRecDepth 20000 in
theorem dX4_entryOf_4 : decode cX4_entryOf 4 = .ok (.iload_n 1, 1) := by decide +kernel
set_option maxRecDepth 20000 in
theorem dX4_entryOf_5 : decode cX4_entryOf 5 = .ok (.iaload, 1) := by decide +kernel
set_option maxRecDepth 20000 in
theorem dX4_entryOf_6 : decode cX4_entryOf 6 = .ok (.istore_n 3, 1) := by decide +kernel
set_option maxRecDepth 20000 in
theorem dX4_entryOf_7 : decode cX4_entryOf 7 = .ok (.iload_n 2, 1) := by decide +kernel
set_option maxRecDepth 20000 in
theorem dX4_entryOf_8 : decode cX4_entryOf 8 = .ok (.aload_n 0, 1) := by decide +kernel
set_option maxRecDepth 20000 in
theorem dX4_entryOf_9 : decode cX4_entryOf 9 = .ok (.getfield 40, 3) := by decide +kernel
set_option maxRecDepth 20000 in
theorem dX4_entryOf_12 : decode cX4_entryOf 12 = .ok (.iload_n 1, 1) := by decide +kernel
set_option maxRecDepth 20000 in
theorem dX4_entryOf_13 : decode cX4_entryOf 13 = .ok (.iaload, 1) := by decide +kernel
set_option maxRecDepth 20000 in
theorem dX4_entryOf_14 : decode cX4_entryOf 14 = .ok (.iconst (-1), 1) := by decide +kernel
set_option maxRecDepth 20000 in
theorem dX4_entryOf_15 : decode cX4_entryOf 15 = .ok (.ixor, 1) := by decide +kernel
set_option maxRecDepth 20000 in
theorem dX4_entryOf_16 : decode cX4_entryOf 16 = .ok (.iand, 1) := by decide +kernel
set_option maxRecDepth 20000 in
theorem dX4_entryOf_17 : decode cX4_entryOf 17 = .ok (.istore 4, 2) := by decide +kernel
set_option maxRecDepth 20000 in
theorem dX4_entryOf_19 : decode cX4_entryOf 19 = .ok (.iload 4, 2) := by decide +kernel
set_option maxRecDepth 20000 in
theorem dX4_entryOf_21 : decode cX4_entryOf 21 = .ok (.iconst 3, 1) := by decide +kernel
set_option maxRecDepth 20000 in
theorem dX4_entryOf_22 : decode cX4_entryOf 22 = .ok (.iload_n 3, 1) := by decide +kernel
set_option maxRecDepth 20000 in
theorem dX4_entryOf_23 : decode cX4_entryOf 23 = .ok (.imul, 1) := by decide +kernel
set_option maxRecDepth 20000 in
theorem dX4_entryOf_24 : decode cX4_entryOf 24 = .ok (.iconst (-1), 1) := by decide +kernel
set_option maxRecDepth 20000 in
theorem dX4_entryOf_25 : decode cX4_entryOf 25 = .ok (.ixor, 1) := by decide +kernel
set_option maxRecDepth 20000 in
theorem dX4_entryOf_26 : decode cX4_entryOf 26 = .ok (.iand, 1) := by decide +kernel
set_option maxRecDepth 20000 in
theorem dX4_entryOf_27 : decode cX4_entryOf 27 = .ok (.iload 4, 2) := by decide +kernel
set_option maxRecDepth 20000 in
theorem dX4_entryOf_29 : decode cX4_entryOf 29 = .ok (.iconst 1, 1) := by decide +kernel
set_option maxRecDepth 20000 in
theorem dX4_entryOf_30 : decode cX4_entryOf 30 = .ok (.ishr, 1) := by decide +kernel
set_option maxRecDepth 20000 in
theorem dX4_entryOf_31 : decode cX4_entryOf 31 = .ok (.iload 4, 2) := by decide +kernel
set_option maxRecDepth 20000 in
theorem dX4_entryOf_33 : decode cX4_entryOf 33 = .ok (.ior, 1) := by decide +kernel
set_option maxRecDepth 20000 in
theorem dX4_entryOf_34 : decode cX4_entryOf 34 = .ok (.iload_n 3, 1) := by decide +kernel
set_option maxRecDepth 20000 in
theorem dX4_entryOf_35 : decode cX4_entryOf 35 = .ok (.iand, 1) := by decide +kernel
set_option maxRecDepth 20000 in
theorem dX4_entryOf_36 : decode cX4_entryOf 36 = .ok (.ior, 1) := by decide +kernel
set_option maxRecDepth 20000 in
theorem dX4_entryOf_37 : decode cX4_entryOf 37 = .ok (.istore 4, 2) := by decide +kernel
set_option maxRecDepth 20000 in
theorem dX4_entryOf_39 : decode cX4_entryOf 39 = .ok (.iload 4, 2) := by decide +kernel
set_option maxRecDepth 20000 in
theorem dX4_entryOf_41 : decode cX4_entryOf 41 = .ok (.iload 4, 2) := by decide +kernel
set_option maxRecDepth 20000 in
theorem dX4_entryOf_43 : decode cX4_entryOf 43 = .ok (.iconst 1, 1) := by decide +kernel
set_option maxRecDepth 20000 in
theorem dX4_entryOf_44 : decode cX4_entryOf 44 = .ok (.ishr, 1) := by decide +kernel
set_option maxRecDepth 20000 in
theorem dX4_entryOf_45 : decode cX4_entryOf 45 = .ok (.iload 4, 2) := by decide +kernel
set_option maxRecDepth 20000 in
theorem dX4_entryOf_47 : decode cX4_entryOf 47 = .ok (.iand, 1) := by decide +kernel
set_option maxRecDepth 20000 in
theorem dX4_entryOf_48 : decode cX4_entryOf 48 = .ok (.aload_n 0, 1) := by decide +kernel
set_option maxRecDepth 20000 in
theorem dX4_entryOf_49 : decode cX4_entryOf 49 = .ok (.getfield 46, 3) := by decide +kernel
set_option maxRecDepth 20000 in
theorem dX4_entryOf_52 : decode cX4_entryOf 52 = .ok (.iload_n 1, 1) := by decide +kernel
set_option maxRecDepth 20000 in
theorem dX4_entryOf_53 : decode cX4_entryOf 53 = .ok (.iaload, 1) := by decide +kernel
set_option maxRecDepth 20000 in
theorem dX4_entryOf_54 : decode cX4_entryOf 54 = .ok (.iand, 1) := by decide +kernel
set_option maxRecDepth 20000 in
theorem dX4_entryOf_55 : decode cX4_entryOf 55 = .ok (.iconst (-1), 1) := by decide +kernel
set_option maxRecDepth 20000 in
theorem dX4_entryOf_56 : decode cX4_entryOf 56 = .ok (.ixor, 1) := by decide +kernel
set_option maxRecDepth 20000 in
theorem dX4_entryOf_57 : decode cX4_entryOf 57 = .ok (.iand, 1) := by decide +kernel
set_option maxRecDepth 20000 in
theorem dX4_entryOf_58 : decode cX4_entryOf 58 = .ok (.sipush 4095, 3) := by decide +kernel
set_option maxRecDepth 20000 in
theorem dX4_entryOf_61 : decode cX4_entryOf 61 = .ok (.iand, 1) := by decide +kernel
set_option maxRecDepth 20000 in
theorem dX4_entryOf_62 : decode cX4_entryOf 62 = .ok (.istore 4, 2) := by decide +kernel
set_option maxRecDepth 20000 in
theorem dX4_entryOf_64 : decode cX4_entryOf 64 = .ok (.aload_n 0, 1) := by decide +kernel
set_option maxRecDepth 20000 in
theorem dX4_entryOf_65 : decode cX4_entryOf 65 = .ok (.getfield 15, 3) := by decide +kernel
set_option maxRecDepth 20000 in
theorem dX4_entryOf_68 : decode cX4_entryOf 68 = .ok (.iload 4, 2) := by decide +kernel
set_option maxRecDepth 20000 in
theorem dX4_entryOf_70 : decode cX4_entryOf 70 = .ok (.iaload, 1) := by decide +kernel
set_option maxRecDepth 20000 in
theorem dX4_entryOf_71 : decode cX4_entryOf 71 = .ok (.istore 5, 2) := by decide +kernel
set_option maxRecDepth 20000 in
theorem dX4_entryOf_73 : decode cX4_entryOf 73 = .ok (.iload 5, 2) := by decide +kernel
set_option maxRecDepth 20000 in
theorem dX4_entryOf_75 : decode cX4_entryOf 75 = .ok (.aload_n 0, 1) := by decide +kernel
set_option maxRecDepth 20000 in
theorem dX4_entryOf_76 : decode cX4_entryOf 76 = .ok (.getfield 37, 3) := by decide +kernel
set_option maxRecDepth 20000 in
theorem dX4_entryOf_79 : decode cX4_entryOf 79 = .ok (.iload_n 1, 1) := by decide +kernel
set_option maxRecDepth 20000 in
theorem dX4_entryOf_80 : decode cX4_entryOf 80 = .ok (.iaload, 1) := by decide +kernel
set_option maxRecDepth 20000 in
theorem dX4_entryOf_81 : decode cX4_entryOf 81 = .ok (.if_icmp .lt 27, 3) := by decide +kernel
set_option maxRecDepth 20000 in
theorem dX4_entryOf_84 : decode cX4_entryOf 84 = .ok (.iload 5, 2) := by decide +kernel
set_option maxRecDepth 20000 in
theorem dX4_entryOf_86 : decode cX4_entryOf 86 = .ok (.aload_n 0, 1) := by decide +kernel
set_option maxRecDepth 20000 in
theorem dX4_entryOf_87 : decode cX4_entryOf 87 = .ok (.getfield 90, 3) := by decide +kernel
set_option maxRecDepth 20000 in
theorem dX4_entryOf_90 : decode cX4_entryOf 90 = .ok (.if_icmp .ge 18, 3) := by decide +kernel
set_option maxRecDepth 20000 in
theorem dX4_entryOf_93 : decode cX4_entryOf 93 = .ok (.aload_n 0, 1) := by decide +kernel
set_option maxRecDepth 20000 in
theorem dX4_entryOf_94 : decode cX4_entryOf 94 = .ok (.getfield 25, 3) := by decide +kernel
set_option maxRecDepth 20000 in
theorem dX4_entryOf_97 : decode cX4_entryOf 97 = .ok (.iload 5, 2) := by decide +kernel
set_option maxRecDepth 20000 in
theorem dX4_entryOf_99 : decode cX4_entryOf 99 = .ok (.iaload, 1) := by decide +kernel
set_option maxRecDepth 20000 in
theorem dX4_entryOf_100 : decode cX4_entryOf 100 = .ok (.iload 4, 2) := by decide +kernel
set_option maxRecDepth 20000 in
theorem dX4_entryOf_102 : decode cX4_entryOf 102 = .ok (.if_icmp .ne 6, 3) := by decide +kernel
set_option maxRecDepth 20000 in
theorem dX4_entryOf_105 : decode cX4_entryOf 105 = .ok (.iload 5, 2) := by decide +kernel
set_option maxRecDepth 20000 in
theorem dX4_entryOf_107 : decode cX4_entryOf 107 = .ok (.ireturn, 1) := by decide +kernel
set_option maxRecDepth 20000 in
theorem dX4_entryOf_108 : decode cX4_entryOf 108 = .ok (.aload_n 0, 1) := by decide +kernel
set_option maxRecDepth 20000 in
theorem dX4_entryOf_109 : decode cX4_entryOf 109 = .ok (.getfield 90, 3) := by decide +kernel
set_option maxRecDepth 20000 in
theorem dX4_entryOf_112 : decode cX4_entryOf 112 = .ok (.sipush 1056, 3) := by decide +kernel
set_option maxRecDepth 20000 in
theorem dX4_entryOf_115 : decode cX4_entryOf 115 = .ok (.if_icmp .lt 5, 3) := by decide +kernel
set_option maxRecDepth 20000 in
theorem dX4_entryOf_118 : decode cX4_entryOf 118 = .ok (.iconst (-1), 1) := by decide +kernel
set_option maxRecDepth 20000 in
theorem dX4_entryOf_119 : decode cX4_entryOf 119 = .ok (.ireturn, 1) := by decide +kernel
set_option maxRecDepth 20000 in
theorem dX4_entryOf_120 : decode cX4_entryOf 120 = .ok (.aload_n 0, 1) := by decide +kernel
set_option maxRecDepth 20000 in
theorem dX4_entryOf_121 : decode cX4_entryOf 121 = .ok (.getfield 25, 3) := by decide +kernel
set_option maxRecDepth 20000 in
theorem dX4_entryOf_124 : decode cX4_entryOf 124 = .ok (.aload_n 0, 1) := by decide +kernel
set_option maxRecDepth 20000 in
theorem dX4_entryOf_125 : decode cX4_entryOf 125 = .ok (.getfield 90, 3) := by decide +kernel
set_option maxRecDepth 20000 in
theorem dX4_entryOf_128 : decode cX4_entryOf 128 = .ok (.iload 4, 2) := by decide +kernel
set_option maxRecDepth 20000 in
theorem dX4_entryOf_130 : decode cX4_entryOf 130 = .ok (.iastore, 1) := by decide +kernel
set_option maxRecDepth 20000 in
theorem dX4_entryOf_131 : decode cX4_entryOf 131 = .ok (.aload_n 0, 1) := by decide +kernel
set_option maxRecDepth 20000 in
theorem dX4_entryOf_132 : decode cX4_entryOf 132 = .ok (.getfield 15, 3) := by decide +kernel
set_option maxRecDepth 20000 in
theorem dX4_entryOf_135 : decode cX4_entryOf 135 = .ok (.iload 4, 2) := by decide +kernel
set_option maxRecDepth 20000 in
theorem dX4_entryOf_137 : decode cX4_entryOf 137 = .ok (.aload_n 0, 1) := by decide +kernel
set_option maxRecDepth 20000 in
theorem dX4_entryOf_138 : decode cX4_entryOf 138 = .ok (.getfield 90, 3) := by decide +kernel
set_option maxRecDepth 20000 in
theorem dX4_entryOf_141 : decode cX4_entryOf 141 = .ok (.iastore, 1) := by decide +kernel
set_option maxRecDepth 20000 in
theorem dX4_entryOf_142 : decode cX4_entryOf 142 = .ok (.aload_n 0, 1) := by decide +kernel
set_option maxRecDepth 20000 in
theorem dX4_entryOf_143 : decode cX4_entryOf 143 = .ok (.dup, 1) := by decide +kernel
set_option maxRecDepth 20000 in
theorem dX4_entryOf_144 : decode cX4_entryOf 144 = .ok (.getfield 90, 3) := by decide +kernel
set_option maxRecDepth 20000 in
theorem dX4_entryOf_147 : decode cX4_entryOf 147 = .ok (.iconst 1, 1) := by decide +kernel
set_option maxRecDepth 20000 in
theorem dX4_entryOf_148 : decode cX4_entryOf 148 = .ok (.iadd, 1) := by decide +kernel
set_option maxRecDepth 20000 in
theorem dX4_entryOf_149 : decode cX4_entryOf 149 = .ok (.putfield 90, 3) := by decide +kernel
set_option maxRecDepth 20000 in
theorem dX4_entryOf_152 : decode cX4_entryOf 152 = .ok (.aload_n 0, 1) := by decide +kernel
set_option maxRecDepth 20000 in
theorem dX4_entryOf_153 : decode cX4_entryOf 153 = .ok (.getfield 90, 3) := by decide +kernel
set_option maxRecDepth 20000 in
theorem dX4_entryOf_156 : decode cX4_entryOf 156 = .ok (.iconst 1, 1) := by decide +kernel
set_option maxRecDepth 20000 in
theorem dX4_entryOf_157 : decode cX4_entryOf 157 = .ok (.isub, 1) := by decide +kernel
set_option maxRecDepth 20000 in
theorem dX4_entryOf_158 : decode cX4_entryOf 158 = .ok (.ireturn, 1) := by decide +kernel
def f_X4_entryOf_108 (N : Nat) (c_clipAll : Nat → Int32) (c_clipToOne : Nat → Int32) (c_clipToTwo : Nat → Int32) (c_firstOf : Nat → Int32) (c_entries : Int32) (c_left : Nat → Int32) (c_slots : Nat → Int32) (v4 : Int32) : Option (Int32 × Int32 × (Nat → Int32) × (Nat → Int32)) :=
    (if c_entries < 1056 then
      (wrI 1056 c_left c_entries v4).bind fun t2 =>
      (wrI 4096 c_slots v4 c_entries).bind fun t3 =>
      some ((c_entries + 1) - 1, c_entries + 1, t2, t3)
    else
      some ((-1 : Int32), c_entries, c_left, c_slots))
set_option maxHeartbeats 4000000 in
set_option maxRecDepth 100000 in
theorem g_X4_entryOf_108 {κ : KC} {ω : KW} {A : Nat → Prop} {ad : Nat → Nat} {u_askers : Int32} {u_places : Int32} {u_seatBits : Int32} {N : Nat} {c_clipAll : Nat → Int32} {c_clipToOne : Nat → Int32} {c_clipToTwo : Nat → Int32} {c_firstOf : Nat → Int32}  {res : Int32 × Int32 × (Nat → Int32) × (Nat → Int32)} {c_entries : Int32} {c_left : Nat → Int32} {c_slots : Nat → Int32} {v4 : Int32} (hf : f_X4_entryOf_108 N c_clipAll c_clipToOne c_clipToTwo c_firstOf c_entries c_left c_slots v4 = some res) : GG mu_X4_entryOf κ ω A (QR κ ω A ad (some (.int res.1)) (w_X4_entryOf res.2.1 c_clipAll c_clipToOne c_clipToTwo c_firstOf res.2.2.1 res.2.2.2 u_askers u_places u_seatBits)) ad 0 0 108 (w_X4_entryOf c_entries c_clipAll c_clipToOne c_clipToTwo c_firstOf c_left c_slots u_askers u_places u_seatBits) [some (.ref 0), none, none, none, some (.int v4), none] [] := by
  refine G_aload_n dX4_entryOf_108 rfl rfl ?_
  refine G_get (v := .int c_entries) F_X4_90 dX4_entryOf_109 rfl rfl ?_
  refine G_sipush 1056 dX4_entryOf_112 (by decide) ?_
  refine G_icmp_lt 120 dX4_entryOf_115 (by decide) (fun h1 => ?_) (fun h1 => ?_)
  · replace hf := ob_t h1 hf
    refine G_aload_n dX4_entryOf_120 rfl rfl ?_
    refine G_get (v := .ref 5) F_X4_25 dX4_entryOf_121 rfl rfl ?_
    refine G_aload_n dX4_entryOf_124 rfl rfl ?_
    refine G_get (v := .int c_entries) F_X4_90 dX4_entryOf_125 rfl rfl ?_
    refine G_iload dX4_entryOf_128 rfl ?_
    obtain ⟨t2, ht2, hf⟩ := ob hf
    refine G_iast (w2 := (w_X4_entryOf c_entries c_clipAll c_clipToOne c_clipToTwo c_firstOf t2 c_slots u_askers u_places u_seatBits)) dX4_entryOf_130 rfl ht2 rfl ?_
    refine G_aload_n dX4_entryOf_131 rfl rfl ?_
    refine G_get (v := .ref 6) F_X4_15 dX4_entryOf_132 rfl rfl ?_
    refine G_iload dX4_entryOf_135 rfl ?_
    refine G_aload_n dX4_entryOf_137 rfl rfl ?_
    refine G_get (v := .int c_entries) F_X4_90 dX4_entryOf_138 rfl rfl ?_
    obtain ⟨t3, ht3, hf⟩ := ob hf
    refine G_iast (w2 := (w_X4_entryOf c_entries c_clipAll c_clipToOne c_clipToTwo c_firstOf t2 t3 u_askers u_places u_seatBits)) dX4_entryOf_141 rfl ht3 rfl ?_
    refine G_aload_n dX4_entryOf_142 rfl rfl ?_
    refine G_dup dX4_entryOf_143 rfl ?_
    refine G_get (v := .int c_entries) F_X4_90 dX4_entryOf_144 rfl rfl ?_
    refine G_iconst 1 dX4_entryOf_147 (by decide) ?_
    refine G_iadd dX4_entryOf_148 ?_
    refine G_put (w2 := (w_X4_entryOf (c_entries + 1) c_clipAll c_clipToOne c_clipToTwo c_firstOf t2 t3 u_askers u_places u_seatBits)) F_X4_90 dX4_entryOf_149 rfl rfl rfl (ltb rfl) rfl ?_
    refine G_aload_n dX4_entryOf_152 rfl rfl ?_
    refine G_get (v := .int (c_entries + 1)) F_X4_90 dX4_entryOf_153 rfl rfl ?_
    refine G_iconst 1 dX4_entryOf_156 (by decide) ?_
    refine G_isub dX4_entryOf_157 ?_
    obtain rfl := os hf
    exact G_ireturn dX4_entryOf_158 rfl
  · replace hf := ob_f h1 hf
    refine G_iconst (-1 : Int32) dX4_entryOf_118 (by decide) ?_
    obtain rfl := os hf
    exact G_ireturn dX4_entryOf_119 rfl
def f_X4_entryOf (N : Nat) (c_clipAll : Nat → Int32) (c_clipToOne : Nat → Int32) (c_clipToTwo : Nat → Int32) (c_firstOf : Nat → Int32) (c_entries : Int32) (c_left : Nat → Int32) (c_slots : Nat → Int32) (a1 : Int32) (a2 : Int32) : Option (Int32 × Int32 × (Nat → Int32) × (Nat → Int32)) :=
  (rdI 9 c_clipToOne a1).bind fun t1 =>
  (rdI 9 c_clipAll a1).bind fun t2 =>
  (rdI 9 c_clipToTwo a1).bind fun t3 =>
  (rdI 4096 c_slots (((((a2 &&& (t2 ^^^ (-1 : Int32))) &&& ((3 * t1) ^^^ (-1 : Int32))) ||| ((((a2 &&& (t2 ^^^ (-1 : Int32))) >>> ((1 : Int32) &&& 31)) ||| (a2 &&& (t2 ^^^ (-1 : Int32)))) &&& t1)) &&& (((((((a2 &&& (t2 ^^^ (-1 : Int32))) &&& ((3 * t1) ^^^ (-1 : Int32))) ||| ((((a2 &&& (t2 ^^^ (-1 : Int32))) >>> ((1 : Int32) &&& 31)) ||| (a2 &&& (t2 ^^^ (-1 : Int32)))) &&& t1)) >>> ((1 : Int32) &&& 31)) &&& (((a2 &&& (t2 ^^^ (-1 : Int32))) &&& ((3 * t1) ^^^ (-1 : Int32))) ||| ((((a2 &&& (t2 ^^^ (-1 : Int32))) >>> ((1 : Int32) &&& 31)) ||| (a2 &&& (t2 ^^^ (-1 : Int32)))) &&& t1))) &&& t3) ^^^ (-1 : Int32))) &&& (4095 : Int32))).bind fun t4 =>
  (rdI 10 c_firstOf a1).bind fun t5 =>
  (if t4 < t5 then
    f_X4_entryOf_108 N c_clipAll c_clipToOne c_clipToTwo c_firstOf c_entries c_left c_slots (((((a2 &&& (t2 ^^^ (-1 : Int32))) &&& ((3 * t1) ^^^ (-1 : Int32))) ||| ((((a2 &&& (t2 ^^^ (-1 : Int32))) >>> ((1 : Int32) &&& 31)) ||| (a2 &&& (t2 ^^^ (-1 : Int32)))) &&& t1)) &&& (((((((a2 &&& (t2 ^^^ (-1 : Int32))) &&& ((3 * t1) ^^^ (-1 : Int32))) ||| ((((a2 &&& (t2 ^^^ (-1 : Int32))) >>> ((1 : Int32) &&& 31)) ||| (a2 &&& (t2 ^^^ (-1 : Int32)))) &&& t1)) >>> ((1 : Int32) &&& 31)) &&& (((a2 &&& (t2 ^^^ (-1 : Int32))) &&& ((3 * t1) ^^^ (-1 : Int32))) ||| ((((a2 &&& (t2 ^^^ (-1 : Int32))) >>> ((1 : Int32) &&& 31)) ||| (a2 &&& (t2 ^^^ (-1 : Int32)))) &&& t1))) &&& t3) ^^^ (-1 : Int32))) &&& (4095 : Int32))
  else
    (if c_entries ≤ t4 then
      f_X4_entryOf_108 N c_clipAll c_clipToOne c_clipToTwo c_firstOf c_entries c_left c_slots (((((a2 &&& (t2 ^^^ (-1 : Int32))) &&& ((3 * t1) ^^^ (-1 : Int32))) ||| ((((a2 &&& (t2 ^^^ (-1 : Int32))) >>> ((1 : Int32) &&& 31)) ||| (a2 &&& (t2 ^^^ (-1 : Int32)))) &&& t1)) &&& (((((((a2 &&& (t2 ^^^ (-1 : Int32))) &&& ((3 * t1) ^^^ (-1 : Int32))) ||| ((((a2 &&& (t2 ^^^ (-1 : Int32))) >>> ((1 : Int32) &&& 31)) ||| (a2 &&& (t2 ^^^ (-1 : Int32)))) &&& t1)) >>> ((1 : Int32) &&& 31)) &&& (((a2 &&& (t2 ^^^ (-1 : Int32))) &&& ((3 * t1) ^^^ (-1 : Int32))) ||| ((((a2 &&& (t2 ^^^ (-1 : Int32))) >>> ((1 : Int32) &&& 31)) ||| (a2 &&& (t2 ^^^ (-1 : Int32)))) &&& t1))) &&& t3) ^^^ (-1 : Int32))) &&& (4095 : Int32))
    else
      (rdI 1056 c_left t4).bind fun t8 =>
      (if t8 = (((((a2 &&& (t2 ^^^ (-1 : Int32))) &&& ((3 * t1) ^^^ (-1 : Int32))) ||| ((((a2 &&& (t2 ^^^ (-1 : Int32))) >>> ((1 : Int32) &&& 31)) ||| (a2 &&& (t2 ^^^ (-1 : Int32)))) &&& t1)) &&& (((((((a2 &&& (t2 ^^^ (-1 : Int32))) &&& ((3 * t1) ^^^ (-1 : Int32))) ||| ((((a2 &&& (t2 ^^^ (-1 : Int32))) >>> ((1 : Int32) &&& 31)) ||| (a2 &&& (t2 ^^^ (-1 : Int32)))) &&& t1)) >>> ((1 : Int32) &&& 31)) &&& (((a2 &&& (t2 ^^^ (-1 : Int32))) &&& ((3 * t1) ^^^ (-1 : Int32))) ||| ((((a2 &&& (t2 ^^^ (-1 : Int32))) >>> ((1 : Int32) &&& 31)) ||| (a2 &&& (t2 ^^^ (-1 : Int32)))) &&& t1))) &&& t3) ^^^ (-1 : Int32))) &&& (4095 : Int32)) then
        some (t4, c_entries, c_left, c_slots)
      else
        f_X4_entryOf_108 N c_clipAll c_clipToOne c_clipToTwo c_firstOf c_entries c_left c_slots (((((a2 &&& (t2 ^^^ (-1 : Int32))) &&& ((3 * t1) ^^^ (-1 : Int32))) ||| ((((a2 &&& (t2 ^^^ (-1 : Int32))) >>> ((1 : Int32) &&& 31)) ||| (a2 &&& (t2 ^^^ (-1 : Int32)))) &&& t1)) &&& (((((((a2 &&& (t2 ^^^ (-1 : Int32))) &&& ((3 * t1) ^^^ (-1 : Int32))) ||| ((((a2 &&& (t2 ^^^ (-1 : Int32))) >>> ((1 : Int32) &&& 31)) ||| (a2 &&& (t2 ^^^ (-1 : Int32)))) &&& t1)) >>> ((1 : Int32) &&& 31)) &&& (((a2 &&& (t2 ^^^ (-1 : Int32))) &&& ((3 * t1) ^^^ (-1 : Int32))) ||| ((((a2 &&& (t2 ^^^ (-1 : Int32))) >>> ((1 : Int32) &&& 31)) ||| (a2 &&& (t2 ^^^ (-1 : Int32)))) &&& t1))) &&& t3) ^^^ (-1 : Int32))) &&& (4095 : Int32)))))
set_option maxHeartbeats 4000000 in
set_option maxRecDepth 100000 in
theorem c_X4_entryOf {N : Nat} {c_clipAll : Nat → Int32} {c_clipToOne : Nat → Int32} {c_clipToTwo : Nat → Int32} {c_firstOf : Nat → Int32} {c_entries : Int32} {c_left : Nat → Int32} {c_slots : Nat → Int32} {u_askers : Int32} {u_places : Int32} {u_seatBits : Int32} {a1 : Int32} {a2 : Int32} {res : Int32 × Int32 × (Nat → Int32) × (Nat → Int32)} (hf : f_X4_entryOf N c_clipAll c_clipToOne c_clipToTwo c_firstOf c_entries c_left c_slots a1 a2 = some res) : Con mu_X4_entryOf [.ref 0, .int a1, .int a2] (w_X4_entryOf c_entries c_clipAll c_clipToOne c_clipToTwo c_firstOf c_left c_slots u_askers u_places u_seatBits) (some (.int res.1)) (w_X4_entryOf res.2.1 c_clipAll c_clipToOne c_clipToTwo c_firstOf res.2.2.1 res.2.2.2 u_askers u_places u_seatBits) := by
  refine Con.mk (show plainName RX4 = true by decide +kernel) (leb rfl) (fun κ ω A ad => ?_)
  change GG mu_X4_entryOf κ ω A (QR κ ω A ad (some (.int res.1)) (w_X4_entryOf res.2.1 c_clipAll c_clipToOne c_clipToTwo c_firstOf res.2.2.1 res.2.2.2 u_askers u_places u_seatBits)) ad 0 0 0 (w_X4_entryOf c_entries c_clipAll c_clipToOne c_clipToTwo c_firstOf c_left c_slots u_askers u_places u_seatBits) [some (.ref 0), some (.int a1), some (.int a2), none, none, none] []
  refine G_aload_n dX4_entryOf_0 rfl rfl ?_
  refine G_get (v := .ref 2) F_X4_43 dX4_entryOf_1 rfl rfl ?_
  refine G_iload_n dX4_entryOf_4 rfl rfl ?_
  obtain ⟨t1, ht1, hf⟩ := ob hf
  refine G_iald dX4_entryOf_5 rfl ht1 ?_
  refine G_istore_n dX4_entryOf_6 rfl (ltb rfl) ?_
  change GG _ _ _ _ _ _ _ _ _ _ [some (.ref 0), some (.int a1), some (.int a2), some (.int t1), none, none] _
  refine G_iload_n dX4_entryOf_7 rfl rfl ?_
  refine G_aload_n dX4_entryOf_8 rfl rfl ?_
  refine G_get (v := .ref 1) F_X4_40 dX4_entryOf_9 rfl rfl ?_
  refine G_iload_n dX4_entryOf_12 rfl rfl ?_
  obtain ⟨t2, ht2, hf⟩ := ob hf
  refine G_iald dX4_entryOf_13 rfl ht2 ?_
  refine G_iconst (-1 : Int32) dX4_entryOf_14 (by decide) ?_
  refine G_ixor dX4_entryOf_15 ?_
  refine G_iand dX4_entryOf_16 ?_
  refine G_istore dX4_entryOf_17 (ltb rfl) ?_
  change GG _ _ _ _ _ _ _ _ _ _ [some (.ref 0), some (.int a1), some (.int a2), some (.int t1), some (.int (a2 &&& (t2 ^^^ (-1 : Int32)))), none] _
  refine G_iload dX4_entryOf_19 rfl ?_
  refine G_iconst 3 dX4_entryOf_21 (by decide) ?_
  refine G_iload_n dX4_entryOf_22 rfl rfl ?_
  refine G_imul dX4_entryOf_23 ?_
  refine G_iconst (-1 : Int32) dX4_entryOf_24 (by decide) ?_
  refine G_ixor dX4_entryOf_25 ?_
  refine G_iand dX4_entryOf_26 ?_
  refine G_iload dX4_entryOf_27 rfl ?_
  refine G_iconst 1 dX4_entryOf_29 (by decide) ?_
  refine G_ishr dX4_entryOf_30 ?_
  refine G_iload dX4_entryOf_31 rfl ?_
  refine G_ior dX4_entryOf_33 ?_
  refine G_iload_n dX4_entryOf_34 rfl rfl ?_
  refine G_iand dX4_entryOf_35 ?_
  refine G_ior dX4_entryOf_36 ?_
  refine G_istore dX4_entryOf_37 (ltb rfl) ?_
  change GG _ _ _ _ _ _ _ _ _ _ [some (.ref 0), some (.int a1), some (.int a2), some (.int t1), some (.int (((a2 &&& (t2 ^^^ (-1 : Int32))) &&& ((3 * t1) ^^^ (-1 : Int32))) ||| ((((a2 &&& (t2 ^^^ (-1 : Int32))) >>> ((1 : Int32) &&& 31)) ||| (a2 &&& (t2 ^^^ (-1 : Int32)))) &&& t1))), none] _
  refine G_iload dX4_entryOf_39 rfl ?_
  refine G_iload dX4_entryOf_41 rfl ?_
  refine G_iconst 1 dX4_entryOf_43 (by decide) ?_
  refine G_ishr dX4_entryOf_44 ?_
  refine G_iload dX4_entryOf_45 rfl ?_
  refine G_iand dX4_entryOf_47 ?_
  refine G_aload_n dX4_entryOf_48 rfl rfl ?_
  refine G_get (v := .ref 3) F_X4_46 dX4_entryOf_49 rfl rfl ?_
  refine G_iload_n dX4_entryOf_52 rfl rfl ?_
  obtain ⟨t3, ht3, hf⟩ := ob hf
  refine G_iald dX4_entryOf_53 rfl ht3 ?_
  refine G_iand dX4_entryOf_54 ?_
  refine G_iconst (-1 : Int32) dX4_entryOf_55 (by decide) ?_
  refine G_ixor dX4_entryOf_56 ?_
  refine G_iand dX4_entryOf_57 ?_
  refine G_sipush 4095 dX4_entryOf_58 (by decide) ?_
  refine G_iand dX4_entryOf_61 ?_
  refine G_istore dX4_entryOf_62 (ltb rfl) ?_
  change GG _ _ _ _ _ _ _ _ _ _ [some (.ref 0), some (.int a1), some (.int a2), some (.int t1), some (.int (((((a2 &&& (t2 ^^^ (-1 : Int32))) &&& ((3 * t1) ^^^ (-1 : Int32))) ||| ((((a2 &&& (t2 ^^^ (-1 : Int32))) >>> ((1 : Int32) &&& 31)) ||| (a2 &&& (t2 ^^^ (-1 : Int32)))) &&& t1)) &&& (((((((a2 &&& (t2 ^^^ (-1 : Int32))) &&& ((3 * t1) ^^^ (-1 : Int32))) ||| ((((a2 &&& (t2 ^^^ (-1 : Int32))) >>> ((1 : Int32) &&& 31)) ||| (a2 &&& (t2 ^^^ (-1 : Int32)))) &&& t1)) >>> ((1 : Int32) &&& 31)) &&& (((a2 &&& (t2 ^^^ (-1 : Int32))) &&& ((3 * t1) ^^^ (-1 : Int32))) ||| ((((a2 &&& (t2 ^^^ (-1 : Int32))) >>> ((1 : Int32) &&& 31)) ||| (a2 &&& (t2 ^^^ (-1 : Int32)))) &&& t1))) &&& t3) ^^^ (-1 : Int32))) &&& (4095 : Int32))), none] _
  refine G_aload_n dX4_entryOf_64 rfl rfl ?_
  refine G_get (v := .ref 6) F_X4_15 dX4_entryOf_65 rfl rfl ?_
  refine G_iload dX4_entryOf_68 rfl ?_
  obtain ⟨t4, ht4, hf⟩ := ob hf
  refine G_iald dX4_entryOf_70 rfl ht4 ?_
  refine G_istore dX4_entryOf_71 (ltb rfl) ?_
  change GG _ _ _ _ _ _ _ _ _ _ [some (.ref 0), some (.int a1), some (.int a2), some (.int t1), some (.int (((((a2 &&& (t2 ^^^ (-1 : Int32))) &&& ((3 * t1) ^^^ (-1 : Int32))) ||| ((((a2 &&& (t2 ^^^ (-1 : Int32))) >>> ((1 : Int32) &&& 31)) ||| (a2 &&& (t2 ^^^ (-1 : Int32)))) &&& t1)) &&& (((((((a2 &&& (t2 ^^^ (-1 : Int32))) &&& ((3 * t1) ^^^ (-1 : Int32))) ||| ((((a2 &&& (t2 ^^^ (-1 : Int32))) >>> ((1 : Int32) &&& 31)) ||| (a2 &&& (t2 ^^^ (-1 : Int32)))) &&& t1)) >>> ((1 : Int32) &&& 31)) &&& (((a2 &&& (t2 ^^^ (-1 : Int32))) &&& ((3 * t1) ^^^ (-1 : Int32))) ||| ((((a2 &&& (t2 ^^^ (-1 : Int32))) >>> ((1 : Int32) &&& 31)) ||| (a2 &&& (t2 ^^^ (-1 : Int32)))) &&& t1))) &&& t3) ^^^ (-1 : Int32))) &&& (4095 : Int32))), some (.int t4)] _
  refine G_iload dX4_entryOf_73 rfl ?_
  refine G_aload_n dX4_entryOf_75 rfl rfl ?_
  refine G_get (v := .ref 4) F_X4_37 dX4_entryOf_76 rfl rfl ?_
  refine G_iload_n dX4_entryOf_79 rfl rfl ?_
  obtain ⟨t5, ht5, hf⟩ := ob hf
  refine G_iald dX4_entryOf_80 rfl ht5 ?_
  refine G_icmp_lt 108 dX4_entryOf_81 (by decide) (fun h6 => ?_) (fun h6 => ?_)
  · replace hf := ob_t h6 hf
    refine GG.sb (lv2 := [some (.ref 0), none, none, none, some (.int (((((a2 &&& (t2 ^^^ (-1 : Int32))) &&& ((3 * t1) ^^^ (-1 : Int32))) ||| ((((a2 &&& (t2 ^^^ (-1 : Int32))) >>> ((1 : Int32) &&& 31)) ||| (a2 &&& (t2 ^^^ (-1 : Int32)))) &&& t1)) &&& (((((((a2 &&& (t2 ^^^ (-1 : Int32))) &&& ((3 * t1) ^^^ (-1 : Int32))) ||| ((((a2 &&& (t2 ^^^ (-1 : Int32))) >>> ((1 : Int32) &&& 31)) ||| (a2 &&& (t2 ^^^ (-1 : Int32)))) &&& t1)) >>> ((1 : Int32) &&& 31)) &&& (((a2 &&& (t2 ^^^ (-1 : Int32))) &&& ((3 * t1) ^^^ (-1 : Int32))) ||| ((((a2 &&& (t2 ^^^ (-1 : Int32))) >>> ((1 : Int32) &&& 31)) ||| (a2 &&& (t2 ^^^ (-1 : Int32)))) &&& t1))) &&& t3) ^^^ (-1 : Int32))) &&& (4095 : Int32))), none]) ?_ (lvS_v rfl (lvS_n (lvS_n (lvS_n (lvS_v rfl (lvS_n (lvS_e)))))))
    exact g_X4_entryOf_108 hf
  · replace hf := ob_f h6 hf
    refine G_iload dX4_entryOf_84 rfl ?_
    refine G_aload_n dX4_entryOf_86 rfl rfl ?_
    refine G_get (v := .int c_entries) F_X4_90 dX4_entryOf_87 rfl rfl ?_
    refine G_icmp_ge 108 dX4_entryOf_90 (by decide) (fun h7 => ?_) (fun h7 => ?_)
    · replace hf := ob_t h7 hf
      refine GG.sb (lv2 := [some (.ref 0), none, none, none, some (.int (((((a2 &&& (t2 ^^^ (-1 : Int32))) &&& ((3 * t1) ^^^ (-1 : Int32))) ||| ((((a2 &&& (t2 ^^^ (-1 : Int32))) >>> ((1 : Int32) &&& 31)) ||| (a2 &&& (t2 ^^^ (-1 : Int32)))) &&& t1)) &&& (((((((a2 &&& (t2 ^^^ (-1 : Int32))) &&& ((3 * t1) ^^^ (-1 : Int32))) ||| ((((a2 &&& (t2 ^^^ (-1 : Int32))) >>> ((1 : Int32) &&& 31)) ||| (a2 &&& (t2 ^^^ (-1 : Int32)))) &&& t1)) >>> ((1 : Int32) &&& 31)) &&& (((a2 &&& (t2 ^^^ (-1 : Int32))) &&& ((3 * t1) ^^^ (-1 : Int32))) ||| ((((a2 &&& (t2 ^^^ (-1 : Int32))) >>> ((1 : Int32) &&& 31)) ||| (a2 &&& (t2 ^^^ (-1 : Int32)))) &&& t1))) &&& t3) ^^^ (-1 : Int32))) &&& (4095 : Int32))), none]) ?_ (lvS_v rfl (lvS_n (lvS_n (lvS_n (lvS_v rfl (lvS_n (lvS_e)))))))
      exact g_X4_entryOf_108 hf
    · replace hf := ob_f h7 hf
      refine G_aload_n dX4_entryOf_93 rfl rfl ?_
      refine G_get (v := .ref 5) F_X4_25 dX4_entryOf_94 rfl rfl ?_
      refine G_iload dX4_entryOf_97 rfl ?_
      obtain ⟨t8, ht8, hf⟩ := ob hf
      refine G_iald dX4_entryOf_99 rfl ht8 ?_
      refine G_iload dX4_entryOf_100 rfl ?_
      refine G_icmp_ne 108 dX4_entryOf_102 (by decide) (fun h9 => ?_) (fun h9 => ?_)
      · replace hf := ob_f h9 hf
        refine GG.sb (lv2 := [some (.ref 0), none, none, none, some (.int (((((a2 &&& (t2 ^^^ (-1 : Int32))) &&& ((3 * t1) ^^^ (-1 : Int32))) ||| ((((a2 &&& (t2 ^^^ (-1 : Int32))) >>> ((1 : Int32) &&& 31)) ||| (a2 &&& (t2 ^^^ (-1 : Int32)))) &&& t1)) &&& (((((((a2 &&& (t2 ^^^ (-1 : Int32))) &&& ((3 * t1) ^^^ (-1 : Int32))) ||| ((((a2 &&& (t2 ^^^ (-1 : Int32))) >>> ((1 : Int32) &&& 31)) ||| (a2 &&& (t2 ^^^ (-1 : Int32)))) &&& t1)) >>> ((1 : Int32) &&& 31)) &&& (((a2 &&& (t2 ^^^ (-1 : Int32))) &&& ((3 * t1) ^^^ (-1 : Int32))) ||| ((((a2 &&& (t2 ^^^ (-1 : Int32))) >>> ((1 : Int32) &&& 31)) ||| (a2 &&& (t2 ^^^ (-1 : Int32)))) &&& t1))) &&& t3) ^^^ (-1 : Int32))) &&& (4095 : Int32))), none]) ?_ (lvS_v rfl (lvS_n (lvS_n (lvS_n (lvS_v rfl (lvS_n (lvS_e)))))))
        exact g_X4_entryOf_108 hf
      · replace hf := ob_t h9 hf
        refine G_iload dX4_entryOf_105 rfl ?_
        obtain rfl := os hf
        exact G_ireturn dX4_entryOf_107 rfl
set_option maxRecDepth 20000 in
theorem dX4_spreadEntry_0 : decode cX4_spreadEntry 0 = .ok (.aload_n 0, 1) := by decide +kernel
set_option maxRecDepth 20000 in
theorem dX4_spreadEntry_1 : decode cX4_spreadEntry 1 = .ok (.getfield 25, 3) := by decide +kernel
set_option maxRecDepth 20000 in
theorem dX4_spreadEntry_4 : decode cX4_spreadEntry 4 = .ok (.iload_n 2, 1) := by decide +kernel
set_option maxRecDepth 20000 in
theorem dX4_spreadEntry_5 : decode cX4_spreadEntry 5 = .ok (.iaload, 1) := by decide +kernel
set_option maxRecDepth 20000 in
theorem dX4_spreadEntry_6 : decode cX4_spreadEntry 6 = .ok (.istore_n 3, 1) := by decide +kernel
set_option maxRecDepth 20000 in
theorem dX4_spreadEntry_7 : decode cX4_spreadEntry 7 = .ok (.iconst 0, 1) := by decide +kernel
set_option maxRecDepth 20000 in
theorem dX4_spreadEntry_8 : decode cX4_spreadEntry 8 = .ok (.istore 4, 2) := by decide +kernel
set_option maxRecDepth 20000 in
theorem dX4_spreadEntry_10 : decode cX4_spreadEntry 10 = .ok (.iload 4, 2) := by decide +kernel
set_option maxRecDepth 20000 in
theorem dX4_spreadEntry_12 : decode cX4_spreadEntry 12 = .ok (.aload_n 0, 1) := by decide +kernel
set_option maxRecDepth 20000 in
theorem dX4_spreadEntry_13 : decode cX4_spreadEntry 13 = .ok (.getfield 63, 3) := by decide +kernel
set_option maxRecDepth 20000 in
theorem dX4_spreadEntry_16 : decode cX4_spreadEntry 16 = .ok (.if_icmp .gt 93, 3) := by decide +kernel
set_option maxRecDepth 20000 in
theorem dX4_spreadEntry_19 : decode cX4_spreadEntry 19 = .ok (.iconst (-1), 1) := by decide +kernel
set_option maxRecDepth 20000 in
theorem dX4_spreadEntry_20 : decode cX4_spreadEntry 20 = .ok (.istore 5, 2) := by decide +kernel
set_option maxRecDepth 20000 in
theorem dX4_spreadEntry_22 : decode cX4_spreadEntry 22 = .ok (.aload_n 0, 1) := by decide +kernel
set_option maxRecDepth 20000 in
theorem dX4_spreadEntry_23 : decode cX4_spreadEntry 23 = .ok (.getfield 19, 3) := by decide +kernel
set_option maxRecDepth 20000 in
theorem dX4_spreadEntry_26 : decode cX4_spreadEntry 26 = .ok (.iload_n 1, 1) := by decide +kernel
set_option maxRecDepth 20000 in
theorem dX4_spreadEntry_27 : decode cX4_spreadEntry 27 = .ok (.bipush 7, 2) := by decide +kernel
set_option maxRecDepth 20000 in
theorem dX4_spreadEntry_29 : decode cX4_spreadEntry 29 = .ok (.imul, 1) := by decide +kernel
set_option maxRecDepth 20000 in
theorem dX4_spreadEntry_30 : decode cX4_spreadEntry 30 = .ok (.iload 4, 2) := by decide +kernel
set_option maxRecDepth 20000 in
theorem dX4_spreadEntry_32 : decode cX4_spreadEntry 32 = .ok (.iadd, 1) := by decide +kernel
set_option maxRecDepth 20000 in
theorem dX4_spreadEntry_33 : decode cX4_spreadEntry 33 = .ok (.iaload, 1) := by decide +kernel
set_option maxRecDepth 20000 in
theorem dX4_spreadEntry_34 : decode cX4_spreadEntry 34 = .ok (.ldc 85, 2) := by decide +kernel
set_option maxRecDepth 20000 in
theorem dX4_spreadEntry_36 : decode cX4_spreadEntry 36 = .ok (.if_icmp .eq 53, 3) := by decide +kernel
set_option maxRecDepth 20000 in
theorem dX4_spreadEntry_39 : decode cX4_spreadEntry 39 = .ok (.iload 4, 2) := by decide +kernel
set_option maxRecDepth 20000 in
theorem dX4_spreadEntry_41 : decode cX4_spreadEntry 41 = .ok (.ifCond .ne 16, 3) := by decide +kernel
set_option maxRecDepth 20000 in
theorem dX4_spreadEntry_44 : decode cX4_spreadEntry 44 = .ok (.aload_n 0, 1) := by decide +kernel
set_option maxRecDepth 20000 in
theorem dX4_spreadEntry_45 : decode cX4_spreadEntry 45 = .ok (.iload_n 1, 1) := by decide +kernel
set_option maxRecDepth 20000 in
theorem dX4_spreadEntry_46 : decode cX4_spreadEntry 46 = .ok (.iconst 1, 1) := by decide +kernel
set_option maxRecDepth 20000 in
theorem dX4_spreadEntry_47 : decode cX4_spreadEntry 47 = .ok (.iadd, 1) := by decide +kernel
set_option maxRecDepth 20000 in
theorem dX4_spreadEntry_48 : decode cX4_spreadEntry 48 = .ok (.iload_n 3, 1) := by decide +kernel
set_option maxRecDepth 20000 in
theorem dX4_spreadEntry_49 : decode cX4_spreadEntry 49 = .ok (.invokevirtual 97, 3) := by decide +kernel
set_option maxRecDepth 20000 in
theorem dX4_spreadEntry_52 : decode cX4_spreadEntry 52 = .ok (.istore 5, 2) := by decide +kernel
set_option maxRecDepth 20000 in
theorem dX4_spreadEntry_54 : decode cX4_spreadEntry 54 = .ok (.goto 35, 3) := by decide +kernel
set_option maxRecDepth 20000 in
theorem dX4_spreadEntry_57 : decode cX4_spreadEntry 57 = .ok (.iload_n 3, 1) := by decide +kernel
set_option maxRecDepth 20000 in
theorem dX4_spreadEntry_58 : decode cX4_spreadEntry 58 = .ok (.iconst 2, 1) := by decide +kernel
set_option maxRecDepth 20000 in
theorem dX4_spreadEntry_59 : decode cX4_spreadEntry 59 = .ok (.iload 4, 2) := by decide +kernel
set_option maxRecDepth 20000 in
theorem dX4_spreadEntry_61 : decode cX4_spreadEntry 61 = .ok (.imul, 1) := by decide +kernel
set_option maxRecDepth 20000 in
theorem dX4_spreadEntry_62 : decode cX4_spreadEntry 62 = .ok (.iconst 2, 1) := by decide +kernel
set_option maxRecDepth 20000 in
theorem dX4_spreadEntry_63 : decode cX4_spreadEntry 63 = .ok (.isub, 1) := by decide +kernel
set_option maxRecDepth 20000 in
theorem dX4_spreadEntry_64 : decode cX4_spreadEntry 64 = .ok (.ishr, 1) := by decide +kernel
set_option maxRecDepth 20000 in
theorem dX4_spreadEntry_65 : decode cX4_spreadEntry 65 = .ok (.iconst 3, 1) := by decide +kernel
set_option maxRecDepth 20000 in
theorem dX4_spreadEntry_66 : decode cX4_spreadEntry 66 = .ok (.iand, 1) := by decide +kernel
set_option maxRecDepth 20000 in
theorem dX4_spreadEntry_67 : decode cX4_spreadEntry 67 = .ok (.ifCond .le 22, 3) := by decide +kernel
set_option maxRecDepth 20000 in
theorem dX4_spreadEntry_70 : decode cX4_spreadEntry 70 = .ok (.aload_n 0, 1) := by decide +kernel
set_option maxRecDepth 20000 in
theorem dX4_spreadEntry_71 : decode cX4_spreadEntry 71 = .ok (.iload_n 1, 1) := by decide +kernel
set_option maxRecDepth 20000 in
theorem dX4_spreadEntry_72 : decode cX4_spreadEntry 72 = .ok (.iconst 1, 1) := by decide +kernel
set_option maxRecDepth 20000 in
theorem dX4_spreadEntry_73 : decode cX4_spreadEntry 73 = .ok (.iadd, 1) := by decide +kernel
set_option maxRecDepth 20000 in
theorem dX4_spreadEntry_74 : decode cX4_spreadEntry 74 = .ok (.iload_n 3, 1) := by decide +kernel
set_option maxRecDepth 20000 in
theorem dX4_spreadEntry_75 : decode cX4_spreadEntry 75 = .ok (.iconst 1, 1) := by decide +kernel
set_option maxRecDepth 20000 in
theorem dX4_spreadEntry_76 : decode cX4_spreadEntry 76 = .ok (.iconst 2, 1) := by decide +kernel
set_option maxRecDepth 20000 in
theorem dX4_spreadEntry_77 : decode cX4_spreadEntry 77 = .ok (.iload 4, 2) := by decide +kernel
set_option maxRecDepth 20000 in
theorem dX4_spreadEntry_79 : decode cX4_spreadEntry 79 = .ok (.imul, 1) := by decide +kernel
set_option maxRecDepth 20000 in
theorem dX4_spreadEntry_80 : decode cX4_spreadEntry 80 = .ok (.iconst 2, 1) := by decide +kernel
set_option maxRecDepth 20000 in
theorem dX4_spreadEntry_81 : decode cX4_spreadEntry 81 = .ok (.isub, 1) := by decide +kernel
set_option maxRecDepth 20000 in
theorem dX4_spreadEntry_82 : decode cX4_spreadEntry 82 = .ok (.ishl, 1) := by decide +kernel
set_option maxRecDepth 20000 in
theorem dX4_spreadEntry_83 : decode cX4_spreadEntry 83 = .ok (.isub, 1) := by decide +kernel
set_option maxRecDepth 20000 in
theorem dX4_spreadEntry_84 : decode cX4_spreadEntry 84 = .ok (.invokevirtual 97, 3) := by decide +kernel
set_option maxRecDepth 20000 in
theorem dX4_spreadEntry_87 : decode cX4_spreadEntry 87 = .ok (.istore 5, 2) := by decide +kernel
set_option maxRecDepth 20000 in
theorem dX4_spreadEntry_89 : decode cX4_spreadEntry 89 = .ok (.aload_n 0, 1) := by decide +kernel
set_option maxRecDepth 20000 in
theorem dX4_spreadEntry_90 : decode cX4_spreadEntry 90 = .ok (.getfield 34, 3) := by decide +kernel
set_option maxRecDepth 20000 in
theorem dX4_spreadEntry_93 : decode cX4_spreadEntry 93 = .ok (.iload_n 2, 1) := by decide +kernel
set_option maxRecDepth 20000 in
theorem dX4_spreadEntry_94 : decode cX4_spreadEntry 94 = .ok (.bipush 7, 2) := by decide +kernel
set_option maxRecDepth 20000 in
theorem dX4_spreadEntry_96 : decode cX4_spreadEntry 96 = .ok (.imul, 1) := by decide +kernel
set_option maxRecDepth 20000 in
theorem dX4_spreadEntry_97 : decode cX4_spreadEntry 97 = .ok (.iload 4, 2) := by decide +kernel
set_option maxRecDepth 20000 in
theorem dX4_spreadEntry_99 : decode cX4_spreadEntry 99 = .ok (.iadd, 1) := by decide +kernel
set_option maxRecDepth 20000 in
theorem dX4_spreadEntry_100 : decode cX4_spreadEntry 100 = .ok (.iload 5, 2) := by decide +kernel
set_option maxRecDepth 20000 in
theorem dX4_spreadEntry_102 : decode cX4_spreadEntry 102 = .ok (.iastore, 1) := by decide +kernel
set_option maxRecDepth 20000 in
theorem dX4_spreadEntry_103 : decode cX4_spreadEntry 103 = .ok (.iinc 4 1, 3) := by decide +kernel
set_option maxRecDepth 20000 in
theorem dX4_spreadEntry_106 : decode cX4_spreadEntry 106 = .ok (.goto (-96), 3) := by decide +kernel
set_option maxRecDepth 20000 in
theorem dX4_spreadEntry_109 : decode cX4_spreadEntry 109 = .ok (.return_, 1) := by decide +kernel
def f_X4_spreadEntry_89 (N : Nat) (c_places : Int32) (c_clipAll : Nat → Int32) (c_clipToOne : Nat → Int32) (c_clipToTwo : Nat → Int32) (c_firstOf : Nat → Int32) (c_gains : Nat → Int32) (k10 : Int32 → (Nat → Int32) → (Nat → Int32) → (Nat → Int32) → Int32 → Int32 → Int32 → Int32 → Option (Int32 × (Nat → Int32) × (Nat → Int32) × (Nat → Int32))) (c_entries : Int32) (c_left : Nat → Int32) (c_next : Nat → Int32) (c_slots : Nat → Int32) (v1 : Int32) (v2 : Int32) (v3 : Int32) (v4 : Int32) (v5 : Int32) : Option (Int32 × (Nat → Int32) × (Nat → Int32) × (Nat → Int32)) :=
    (wrI 7392 c_next ((v2 * 7) + v4) v5).bind fun t1 =>
    k10 c_entries c_left t1 c_slots v1 v2 v3 (v4 + 1)
set_option maxHeartbeats 4000000 in
set_option maxRecDepth 100000 in
theorem g_X4_spreadEntry_89 {κ : KC} {ω : KW} {A : Nat → Prop} {ad : Nat → Nat} {u_askers : Int32} {u_seatBits : Int32} {N : Nat} {c_places : Int32} {c_clipAll : Nat → Int32} {c_clipToOne : Nat → Int32} {c_clipToTwo : Nat → Int32} {c_firstOf : Nat → Int32} {c_gains : Nat → Int32}  {k10 : Int32 → (Nat → Int32) → (Nat → Int32) → (Nat → Int32) → Int32 → Int32 → Int32 → Int32 → Option (Int32 × (Nat → Int32) × (Nat → Int32) × (Nat → Int32))} {res : Int32 × (Nat → Int32) × (Nat → Int32) × (Nat → Int32)} (hk10 : ∀ {c_entries : Int32} {c_left : Nat → Int32} {c_next : Nat → Int32} {c_slots : Nat → Int32} {v1 : Int32} {v2 : Int32} {v3 : Int32} {v4 : Int32}, k10 c_entries c_left c_next c_slots v1 v2 v3 v4 = some res → GG mu_X4_spreadEntry κ ω A (QR κ ω A ad (none) (w_X4_spreadEntry c_places res.1 c_clipAll c_clipToOne c_clipToTwo c_firstOf c_gains res.2.1 res.2.2.1 res.2.2.2 u_askers u_seatBits)) ad 0 0 10 (w_X4_spreadEntry c_places c_entries c_clipAll c_clipToOne c_clipToTwo c_firstOf c_gains c_left c_next c_slots u_askers u_seatBits) [some (.ref 0), some (.int v1), some (.int v2), some (.int v3), some (.int v4), none] []) {c_entries : Int32} {c_left : Nat → Int32} {c_next : Nat → Int32} {c_slots : Nat → Int32} {v1 : Int32} {v2 : Int32} {v3 : Int32} {v4 : Int32} {v5 : Int32} (hf : f_X4_spreadEntry_89 N c_places c_clipAll c_clipToOne c_clipToTwo c_firstOf c_gains k10 c_entries c_left c_next c_slots v1 v2 v3 v4 v5 = some res) : GG mu_X4_spreadEntry κ ω A (QR κ ω A ad (none) (w_X4_spreadEntry c_places res.1 c_clipAll c_clipToOne c_clipToTwo c_firstOf c_gains res.2.1 res.2.2.1 res.2.2.2 u_askers u_seatBits)) ad 0 0 89 (w_X4_spreadEntry c_places c_entries c_clipAll c_clipToOne c_clipToTwo c_firstOf c_gains c_left c_next c_slots u_askers u_seatBits) [some (.ref 0), some (.int v1), some (.int v2), some (.int v3), some (.int v4), some (.int v5)] [] := by
  refine G_aload_n dX4_spreadEntry_89 rfl rfl ?_
  refine G_get (v := .ref 7) F_X4_34 dX4_spreadEntry_90 rfl rfl ?_
  refine G_iload_n dX4_spreadEntry_93 rfl rfl ?_
  refine G_bipush 7 dX4_spreadEntry_94 (by decide) ?_
  refine G_imul dX4_spreadEntry_96 ?_
  refine G_iload dX4_spreadEntry_97 rfl ?_
  refine G_iadd dX4_spreadEntry_99 ?_
  refine G_iload dX4_spreadEntry_100 rfl ?_
  obtain ⟨t1, ht1, hf⟩ := ob hf
  refine G_iast (w2 := (w_X4_spreadEntry c_places c_entries c_clipAll c_clipToOne c_clipToTwo c_firstOf c_gains c_left t1 c_slots u_askers u_seatBits)) dX4_spreadEntry_102 rfl ht1 rfl ?_
  refine G_iinc 1 dX4_spreadEntry_103 (by decide) rfl (ltb rfl) ?_
  change GG _ _ _ _ _ _ _ _ _ _ [some (.ref 0), some (.int v1), some (.int v2), some (.int v3), some (.int (v4 + 1)), some (.int v5)] _
  refine G_goto 10 dX4_spreadEntry_106 (by decide) ?_
  refine GG.sb (lv2 := [some (.ref 0), some (.int v1), some (.int v2), some (.int v3), some (.int (v4 + 1)), none]) ?_ (lvS_v rfl (lvS_v rfl (lvS_v rfl (lvS_v rfl (lvS_v rfl (lvS_n (lvS_e)))))))
  exact hk10 hf
def f_X4_spreadEntry_10 (N : Nat) (c_places : Int32) (c_clipAll : Nat → Int32) (c_clipToOne : Nat → Int32) (c_clipToTwo : Nat → Int32) (c_firstOf : Nat → Int32) (c_gains : Nat → Int32) : Nat → Int32 → (Nat → Int32) → (Nat → Int32) → (Nat → Int32) → Int32 → Int32 → Int32 → Int32 → Option (Int32 × (Nat → Int32) × (Nat → Int32) × (Nat → Int32))
  | 0, _, _, _, _, _, _, _, _ => none
  | n + 1, c_entries, c_left, c_next, c_slots, v1, v2, v3, v4 =>
    (if c_places < v4 then
      some (c_entries, c_left, c_next, c_slots)
    else
      (rdI 56 c_gains ((v1 * 7) + v4)).bind fun t2 =>
      (if t2 = (-2000000000 : Int32) then
        f_X4_spreadEntry_89 N c_places c_clipAll c_clipToOne c_clipToTwo c_firstOf c_gains (f_X4_spreadEntry_10 N c_places c_clipAll c_clipToOne c_clipToTwo c_firstOf c_gains n) c_entries c_left c_next c_slots v1 v2 v3 v4 (-1 : Int32)
      else
        (if v4 = 0 then
          (f_X4_entryOf N c_clipAll c_clipToOne c_clipToTwo c_firstOf c_entries c_left c_slots (v1 + 1) v3).bind fun (r11, o12, o13, o14) =>
          f_X4_spreadEntry_89 N c_places c_clipAll c_clipToOne c_clipToTwo c_firstOf c_gains (f_X4_spreadEntry_10 N c_places c_clipAll c_clipToOne c_clipToTwo c_firstOf c_gains n) o12 o13 c_next o14 v1 v2 v3 v4 r11
        else
          (if ((v3 >>> (((2 * v4) - 2) &&& 31)) &&& (3 : Int32)) ≤ 0 then
            f_X4_spreadEntry_89 N c_places c_clipAll c_clipToOne c_clipToTwo c_firstOf c_gains (f_X4_spreadEntry_10 N c_places c_clipAll c_clipToOne c_clipToTwo c_firstOf c_gains n) c_entries c_left c_next c_slots v1 v2 v3 v4 (-1 : Int32)
          else
            (f_X4_entryOf N c_clipAll c_clipToOne c_clipToTwo c_firstOf c_entries c_left c_slots (v1 + 1) (v3 - ((1 : Int32) <<< (((2 * v4) - 2) &&& 31)))).bind fun (r6, o7, o8, o9) =>
            f_X4_spreadEntry_89 N c_places c_clipAll c_clipToOne c_clipToTwo c_firstOf c_gains (f_X4_spreadEntry_10 N c_places c_clipAll c_clipToOne c_clipToTwo c_firstOf c_gains n) o7 o8 c_next o9 v1 v2 v3 v4 r6))))
set_option maxHeartbeats 4000000 in
set_option maxRecDepth 100000 in
theorem g_X4_spreadEntry_10 {κ : KC} {ω : KW} {A : Nat → Prop} {ad : Nat → Nat} {u_askers : Int32} {u_seatBits : Int32} {N : Nat} {c_places : Int32} {c_clipAll : Nat → Int32} {c_clipToOne : Nat → Int32} {c_clipToTwo : Nat → Int32} {c_firstOf : Nat → Int32} {c_gains : Nat → Int32}  {res : Int32 × (Nat → Int32) × (Nat → Int32) × (Nat → Int32)} : ∀ (n : Nat) {c_entries : Int32} {c_left : Nat → Int32} {c_next : Nat → Int32} {c_slots : Nat → Int32} {v1 : Int32} {v2 : Int32} {v3 : Int32} {v4 : Int32}, f_X4_spreadEntry_10 N c_places c_clipAll c_clipToOne c_clipToTwo c_firstOf c_gains n c_entries c_left c_next c_slots v1 v2 v3 v4 = some res → GG mu_X4_spreadEntry κ ω A (QR κ ω A ad (none) (w_X4_spreadEntry c_places res.1 c_clipAll c_clipToOne c_clipToTwo c_firstOf c_gains res.2.1 res.2.2.1 res.2.2.2 u_askers u_seatBits)) ad 0 0 10 (w_X4_spreadEntry c_places c_entries c_clipAll c_clipToOne c_clipToTwo c_firstOf c_gains c_left c_next c_slots u_askers u_seatBits) [some (.ref 0), some (.int v1), some (.int v2), some (.int v3), some (.int v4), none] [] := by
  intro n
  induction n with
  | zero => intro c_entries c_left c_next c_slots v1 v2 v3 v4 hf; exact ob_0 hf
  | succ n ih =>
    intro c_entries c_left c_next c_slots v1 v2 v3 v4 hf
    refine G_iload dX4_spreadEntry_10 rfl ?_
    refine G_aload_n dX4_spreadEntry_12 rfl rfl ?_
    refine G_get (v := .int c_places) F_X4_63 dX4_spreadEntry_13 rfl rfl ?_
    refine G_icmp_gt 109 dX4_spreadEntry_16 (by decide) (fun h1 => ?_) (fun h1 => ?_)
    · replace hf := ob_t h1 hf
      obtain rfl := os hf
      exact G_return dX4_spreadEntry_109 rfl
    · replace hf := ob_f h1 hf
      refine G_iconst (-1 : Int32) dX4_spreadEntry_19 (by decide) ?_
      refine G_istore dX4_spreadEntry_20 (ltb rfl) ?_
      change GG _ _ _ _ _ _ _ _ _ _ [some (.ref 0), some (.int v1), some (.int v2), some (.int v3), some (.int v4), some (.int (-1 : Int32))] _
      refine G_aload_n dX4_spreadEntry_22 rfl rfl ?_
      refine G_get (v := .ref 5) F_X4_19 dX4_spreadEntry_23 rfl rfl ?_
      refine G_iload_n dX4_spreadEntry_26 rfl rfl ?_
      refine G_bipush 7 dX4_spreadEntry_27 (by decide) ?_
      refine G_imul dX4_spreadEntry_29 ?_
      refine G_iload dX4_spreadEntry_30 rfl ?_
      refine G_iadd dX4_spreadEntry_32 ?_
      obtain ⟨t2, ht2, hf⟩ := ob hf
      refine G_iald dX4_spreadEntry_33 rfl ht2 ?_
      refine G_ldc (v := (-2000000000 : Int32)) dX4_spreadEntry_34 k_X4_85 ?_
      refine G_icmp_eq 89 dX4_spreadEntry_36 (by decide) (fun h3 => ?_) (fun h3 => ?_)
      · replace hf := ob_t h3 hf
        exact g_X4_spreadEntry_89 ih hf
      · replace hf := ob_f h3 hf
        refine G_iload dX4_spreadEntry_39 rfl ?_
        refine G_if_ne 57 dX4_spreadEntry_41 (by decide) (fun h4 => ?_) (fun h4 => ?_)
        · replace hf := ob_f h4 hf
          refine G_iload_n dX4_spreadEntry_57 rfl rfl ?_
          refine G_iconst 2 dX4_spreadEntry_58 (by decide) ?_
          refine G_iload dX4_spreadEntry_59 rfl ?_
          refine G_imul dX4_spreadEntry_61 ?_
          refine G_iconst 2 dX4_spreadEntry_62 (by decide) ?_
          refine G_isub dX4_spreadEntry_63 ?_
          refine G_ishr dX4_spreadEntry_64 ?_
          refine G_iconst 3 dX4_spreadEntry_65 (by decide) ?_
          refine G_iand dX4_spreadEntry_66 ?_
          refine G_if_le 89 dX4_spreadEntry_67 (by decide) (fun h5 => ?_) (fun h5 => ?_)
          · replace hf := ob_t h5 hf
            exact g_X4_spreadEntry_89 ih hf
          · replace hf := ob_f h5 hf
            refine G_aload_n dX4_spreadEntry_70 rfl rfl ?_
            refine G_iload_n dX4_spreadEntry_71 rfl rfl ?_
            refine G_iconst 1 dX4_spreadEntry_72 (by decide) ?_
            refine G_iadd dX4_spreadEntry_73 ?_
            refine G_iload_n dX4_spreadEntry_74 rfl rfl ?_
            refine G_iconst 1 dX4_spreadEntry_75 (by decide) ?_
            refine G_iconst 2 dX4_spreadEntry_76 (by decide) ?_
            refine G_iload dX4_spreadEntry_77 rfl ?_
            refine G_imul dX4_spreadEntry_79 ?_
            refine G_iconst 2 dX4_spreadEntry_80 (by decide) ?_
            refine G_isub dX4_spreadEntry_81 ?_
            refine G_ishl dX4_spreadEntry_82 ?_
            refine G_isub dX4_spreadEntry_83 ?_
            obtain ⟨⟨r6, o7, o8, o9⟩, hc10, hf⟩ := ob hf
            refine G_callV (μ2 := mu_X4_entryOf) (As := [.int (v1 + 1), .int (v3 - ((1 : Int32) <<< (((2 * v4) - 2) &&& 31)))]) (w2 := (w_X4_spreadEntry c_places o7 c_clipAll c_clipToOne c_clipToTwo c_firstOf c_gains o8 c_next o9 u_askers u_seatBits)) (wc := (w_X4_entryOf c_entries c_clipAll c_clipToOne c_clipToTwo c_firstOf c_left c_slots u_askers c_places u_seatBits)) (wc2 := (w_X4_entryOf o7 c_clipAll c_clipToOne c_clipToTwo c_firstOf o8 o9 u_askers c_places u_seatBits)) (rest := []) (rv := [.int r6]) [0, 1, 2, 3, 4, 6, 8] [1000, 5, 1001, 1002, 1003, 7] [5, 7] [2, 3, 4, 5, 6, 0, 7, 1, 8] (c_X4_entryOf hc10) cw_X4_entryOf m_X4_97 dX4_spreadEntry_84 rfl ⟨leb rfl, leb rfl⟩ ⟨rfl, rfl⟩ rfl ⟨_, rfl, rfl⟩ (Fit.mk rfl rfl rfl) rfl (leb rfl) (ROsub.nil rfl rfl) rfl ?_
            change GG _ _ _ _ _ _ _ _ _ (w_X4_spreadEntry c_places o7 c_clipAll c_clipToOne c_clipToTwo c_firstOf c_gains o8 c_next o9 u_askers u_seatBits) [some (.ref 0), some (.int v1), some (.int v2), some (.int v3), some (.int v4), some (.int (-1 : Int32))] [.int r6]
            refine G_istore dX4_spreadEntry_87 (ltb rfl) ?_
            change GG _ _ _ _ _ _ _ _ _ _ [some (.ref 0), some (.int v1), some (.int v2), some (.int v3), some (.int v4), some (.int r6)] _
            exact g_X4_spreadEntry_89 ih hf
        · replace hf := ob_t h4 hf
          refine G_aload_n dX4_spreadEntry_44 rfl rfl ?_
          refine G_iload_n dX4_spreadEntry_45 rfl rfl ?_
          refine G_iconst 1 dX4_spreadEntry_46 (by decide) ?_
          refine G_iadd dX4_spreadEntry_47 ?_
          refine G_iload_n dX4_spreadEntry_48 rfl rfl ?_
          obtain ⟨⟨r11, o12, o13, o14⟩, hc15, hf⟩ := ob hf
          refine G_callV (μ2 := mu_X4_entryOf) (As := [.int (v1 + 1), .int v3]) (w2 := (w_X4_spreadEntry c_places o12 c_clipAll c_clipToOne c_clipToTwo c_firstOf c_gains o13 c_next o14 u_askers u_seatBits)) (wc := (w_X4_entryOf c_entries c_clipAll c_clipToOne c_clipToTwo c_firstOf c_left c_slots u_askers c_places u_seatBits)) (wc2 := (w_X4_entryOf o12 c_clipAll c_clipToOne c_clipToTwo c_firstOf o13 o14 u_askers c_places u_seatBits)) (rest := []) (rv := [.int r11]) [0, 1, 2, 3, 4, 6, 8] [1000, 5, 1001, 1002, 1003, 7] [5, 7] [2, 3, 4, 5, 6, 0, 7, 1, 8] (c_X4_entryOf hc15) cw_X4_entryOf m_X4_97 dX4_spreadEntry_49 rfl ⟨leb rfl, leb rfl⟩ ⟨rfl, rfl⟩ rfl ⟨_, rfl, rfl⟩ (Fit.mk rfl rfl rfl) rfl (leb rfl) (ROsub.nil rfl rfl) rfl ?_
          change GG _ _ _ _ _ _ _ _ _ (w_X4_spreadEntry c_places o12 c_clipAll c_clipToOne c_clipToTwo c_firstOf c_gains o13 c_next o14 u_askers u_seatBits) [some (.ref 0), some (.int v1), some (.int v2), some (.int v3), some (.int v4), some (.int (-1 : Int32))] [.int r11]
          refine G_istore dX4_spreadEntry_52 (ltb rfl) ?_
          change GG _ _ _ _ _ _ _ _ _ _ [some (.ref 0), some (.int v1), some (.int v2), some (.int v3), some (.int v4), some (.int r11)] _
          refine G_goto 89 dX4_spreadEntry_54 (by decide) ?_
          exact g_X4_spreadEntry_89 ih hf
def f_X4_spreadEntry (N : Nat) (c_places : Int32) (c_clipAll : Nat → Int32) (c_clipToOne : Nat → Int32) (c_clipToTwo : Nat → Int32) (c_firstOf : Nat → Int32) (c_gains : Nat → Int32) (c_entries : Int32) (c_left : Nat → Int32) (c_next : Nat → Int32) (c_slots : Nat → Int32) (a1 : Int32) (a2 : Int32) : Option (Int32 × (Nat → Int32) × (Nat → Int32) × (Nat → Int32)) :=
  (rdI 1056 c_left a2).bind fun t1 =>
  f_X4_spreadEntry_10 N c_places c_clipAll c_clipToOne c_clipToTwo c_firstOf c_gains N c_entries c_left c_next c_slots a1 a2 t1 0
set_option maxHeartbeats 4000000 in
set_option maxRecDepth 100000 in
theorem c_X4_spreadEntry {N : Nat} {c_places : Int32} {c_clipAll : Nat → Int32} {c_clipToOne : Nat → Int32} {c_clipToTwo : Nat → Int32} {c_firstOf : Nat → Int32} {c_gains : Nat → Int32} {c_entries : Int32} {c_left : Nat → Int32} {c_next : Nat → Int32} {c_slots : Nat → Int32} {u_askers : Int32} {u_seatBits : Int32} {a1 : Int32} {a2 : Int32} {res : Int32 × (Nat → Int32) × (Nat → Int32) × (Nat → Int32)} (hf : f_X4_spreadEntry N c_places c_clipAll c_clipToOne c_clipToTwo c_firstOf c_gains c_entries c_left c_next c_slots a1 a2 = some res) : Con mu_X4_spreadEntry [.ref 0, .int a1, .int a2] (w_X4_spreadEntry c_places c_entries c_clipAll c_clipToOne c_clipToTwo c_firstOf c_gains c_left c_next c_slots u_askers u_seatBits) (none) (w_X4_spreadEntry c_places res.1 c_clipAll c_clipToOne c_clipToTwo c_firstOf c_gains res.2.1 res.2.2.1 res.2.2.2 u_askers u_seatBits) := by
  refine Con.mk (show plainName RX4 = true by decide +kernel) (leb rfl) (fun κ ω A ad => ?_)
  change GG mu_X4_spreadEntry κ ω A (QR κ ω A ad (none) (w_X4_spreadEntry c_places res.1 c_clipAll c_clipToOne c_clipToTwo c_firstOf c_gains res.2.1 res.2.2.1 res.2.2.2 u_askers u_seatBits)) ad 0 0 0 (w_X4_spreadEntry c_places c_entries c_clipAll c_clipToOne c_clipToTwo c_firstOf c_gains c_left c_next c_slots u_askers u_seatBits) [some (.ref 0), some (.int a1), some (.int a2), none, none, none] []
  refine G_aload_n dX4_spreadEntry_0 rfl rfl ?_
  refine G_get (v := .ref 6) F_X4_25 dX4_spreadEntry_1 rfl rfl ?_
  refine G_iload_n dX4_spreadEntry_4 rfl rfl ?_
  obtain ⟨t1, ht1, hf⟩ := ob hf
  refine G_iald dX4_spreadEntry_5 rfl ht1 ?_
  refine G_istore_n dX4_spreadEntry_6 rfl (ltb rfl) ?_
  change GG _ _ _ _ _ _ _ _ _ _ [some (.ref 0), some (.int a1), some (.int a2), some (.int t1), none, none] _
  refine G_iconst 0 dX4_spreadEntry_7 (by decide) ?_
  refine G_istore dX4_spreadEntry_8 (ltb rfl) ?_
  change GG _ _ _ _ _ _ _ _ _ _ [some (.ref 0), some (.int a1), some (.int a2), some (.int t1), some (.int 0), none] _
  exact g_X4_spreadEntry_10 N hf
set_option maxRecDepth 20000 in
theorem dX4_spread_0 : decode cX4_spread 0 = .ok (.aload_n 0, 1) := by decide +kernel
set_option maxRecDepth 20000 in
theorem dX4_spread_1 : decode cX4_spread 1 = .ok (.getfield 25, 3) := by decide +kernel
set_option maxRecDepth 20000 in
theorem dX4_spread_4 : decode cX4_spread 4 = .ok (.iconst 0, 1) := by decide +kernel
set_option maxRecDepth 20000 in
theorem dX4_spread_5 : decode cX4_spread 5 = .ok (.aload_n 0, 1) := by decide +kernel
set_option maxRecDepth 20000 in
theorem dX4_spread_6 : decode cX4_spread 6 = .ok (.getfield 68, 3) := by decide +kernel
set_option maxRecDepth 20000 in
theorem dX4_spread_9 : decode cX4_spread 9 = .ok (.iastore, 1) := by decide +kernel
set_option maxRecDepth 20000 in
theorem dX4_spread_10 : decode cX4_spread 10 = .ok (.aload_n 0, 1) := by decide +kernel
set_option maxRecDepth 20000 in
theorem dX4_spread_11 : decode cX4_spread 11 = .ok (.iconst 1, 1) := by decide +kernel
set_option maxRecDepth 20000 in
theorem dX4_spread_12 : decode cX4_spread 12 = .ok (.putfield 90, 3) := by decide +kernel
set_option maxRecDepth 20000 in
theorem dX4_spread_15 : decode cX4_spread 15 = .ok (.aload_n 0, 1) := by decide +kernel
set_option maxRecDepth 20000 in
theorem dX4_spread_16 : decode cX4_spread 16 = .ok (.getfield 37, 3) := by decide +kernel
set_option maxRecDepth 20000 in
theorem dX4_spread_19 : decode cX4_spread 19 = .ok (.iconst 0, 1) := by decide +kernel
set_option maxRecDepth 20000 in
theorem dX4_spread_20 : decode cX4_spread 20 = .ok (.iconst 0, 1) := by decide +kernel
set_option maxRecDepth 20000 in
theorem dX4_spread_21 : decode cX4_spread 21 = .ok (.iastore, 1) := by decide +kernel
set_option maxRecDepth 20000 in
theorem dX4_spread_22 : decode cX4_spread 22 = .ok (.aload_n 0, 1) := by decide +kernel
set_option maxRecDepth 20000 in
theorem dX4_spread_23 : decode cX4_spread 23 = .ok (.getfield 37, 3) := by decide +kernel
set_option maxRecDepth 20000 in
theorem dX4_spread_26 : decode cX4_spread 26 = .ok (.iconst 1, 1) := by decide +kernel
set_option maxRecDepth 20000 in
theorem dX4_spread_27 : decode cX4_spread 27 = .ok (.iconst 1, 1) := by decide +kernel
set_option maxRecDepth 20000 in
theorem dX4_spread_28 : decode cX4_spread 28 = .ok (.iastore, 1) := by decide +kernel
set_option maxRecDepth 20000 in
theorem dX4_spread_29 : decode cX4_spread 29 = .ok (.iconst 0, 1) := by decide +kernel
set_option maxRecDepth 20000 in
theorem dX4_spread_30 : decode cX4_spread 30 = .ok (.istore_n 1, 1) := by decide +kernel
set_option maxRecDepth 20000 in
theorem dX4_spread_31 : decode cX4_spread 31 = .ok (.iload_n 1, 1) := by decide +kernel
set_option maxRecDepth 20000 in
theorem dX4_spread_32 : decode cX4_spread 32 = .ok (.aload_n 0, 1) := by decide +kernel
set_option maxRecDepth 20000 in
theorem dX4_spread_33 : decode cX4_spread 33 = .ok (.getfield 49, 3) := by decide +kernel
set_option maxRecDepth 20000 in
theorem dX4_spread_36 : decode cX4_spread 36 = .ok (.if_icmp .ge 52, 3) := by decide +kernel
set_option maxRecDepth 20000 in
theorem dX4_spread_39 : decode cX4_spread 39 = .ok (.aload_n 0, 1) := by decide +kernel
set_option maxRecDepth 20000 in
theorem dX4_spread_40 : decode cX4_spread 40 = .ok (.getfield 37, 3) := by decide +kernel
set_option maxRecDepth 20000 in
theorem dX4_spread_43 : decode cX4_spread 43 = .ok (.iload_n 1, 1) := by decide +kernel
set_option maxRecDepth 20000 in
theorem dX4_spread_44 : decode cX4_spread 44 = .ok (.iaload, 1) := by decide +kernel
set_option maxRecDepth 20000 in
theorem dX4_spread_45 : decode cX4_spread 45 = .ok (.istore_n 2, 1) := by decide +kernel
set_option maxRecDepth 20000 in
theorem dX4_spread_46 : decode cX4_spread 46 = .ok (.iload_n 2, 1) := by decide +kernel
set_option maxRecDepth 20000 in
theorem dX4_spread_47 : decode cX4_spread 47 = .ok (.aload_n 0, 1) := by decide +kernel
set_option maxRecDepth 20000 in
theorem dX4_spread_48 : decode cX4_spread 48 = .ok (.getfield 37, 3) := by decide +kernel
set_option maxRecDepth 20000 in
theorem dX4_spread_51 : decode cX4_spread 51 = .ok (.iload_n 1, 1) := by decide +kernel
set_option maxRecDepth 20000 in
theorem dX4_spread_52 : decode cX4_spread 52 = .ok (.iconst 1, 1) := by decide +kernel
set_option maxRecDepth 20000 in
theorem dX4_spread_53 : decode cX4_spread 53 = .ok (.iadd, 1) := by decide +kernel
set_option maxRecDepth 20000 in
theorem dX4_spread_54 : decode cX4_spread 54 = .ok (.iaload, 1) := by decide +kernel
set_option maxRecDepth 20000 in
theorem dX4_spread_55 : decode cX4_spread 55 = .ok (.if_icmp .ge 15, 3) := by decide +kernel
set_option maxRecDepth 20000 in
theorem dX4_spread_58 : decode cX4_spread 58 = .ok (.aload_n 0, 1) := by decide +kernel
set_option maxRecDepth 20000 in
theorem dX4_spread_59 : decode cX4_spread 59 = .ok (.iload_n 1, 1) := by decide +kernel
set_option maxRecDepth 20000 in
theorem dX4_spread_60 : decode cX4_spread 60 = .ok (.iload_n 2, 1) := by decide +kernel
set_option maxRecDepth 20000 in
theorem dX4_spread_61 : decode cX4_spread 61 = .ok (.invokevirtual 93, 3) := by decide +kernel
set_option maxRecDepth 20000 in
theorem dX4_spread_64 : decode cX4_spread 64 = .ok (.iinc 2 1, 3) := by decide +kernel
set_option maxRecDepth 20000 in
theorem dX4_spread_67 : decode cX4_spread 67 = .ok (.goto (-21), 3) := by decide +kernel
set_option maxRecDepth 20000 in
theorem dX4_spread_70 : decode cX4_spread 70 = .ok (.aload_n 0, 1) := by decide +kernel
set_option maxRecDepth 20000 in
theorem dX4_spread_71 : decode cX4_spread 71 = .ok (.getfield 37, 3) := by decide +kernel
set_option maxRecDepth 20000 in
theorem dX4_spread_74 : decode cX4_spread 74 = .ok (.iload_n 1, 1) := by decide +kernel
set_option maxRecDepth 20000 in
theorem dX4_spread_75 : decode cX4_spread 75 = .ok (.iconst 2, 1) := by decide +kernel
set_option maxRecDepth 20000 in
theorem dX4_spread_76 : decode cX4_spread 76 = .ok (.iadd, 1) := by decide +kernel
set_option maxRecDepth 20000 in
theorem dX4_spread_77 : decode cX4_spread 77 = .ok (.aload_n 0, 1) := by decide +kernel
set_option maxRecDepth 20000 in
theorem dX4_spread_78 : decode cX4_spread 78 = .ok (.getfield 90, 3) := by decide +kernel
set_option maxRecDepth 20000 in
theorem dX4_spread_81 : decode cX4_spread 81 = .ok (.iastore, 1) := by decide +kernel
set_option maxRecDepth 20000 in
theorem dX4_spread_82 : decode cX4_spread 82 = .ok (.iinc 1 1, 3) := by decide +kernel
set_option maxRecDepth 20000 in
theorem dX4_spread_85 : decode cX4_spread 85 = .ok (.goto (-54), 3) := by decide +kernel
set_option maxRecDepth 20000 in
theorem dX4_spread_88 : decode cX4_spread 88 = .ok (.return_, 1) := by decide +kernel
def f_X4_spread_46 (N : Nat) (c_askers : Int32) (c_places : Int32) (c_seatBits : Int32) (c_clipAll : Nat → Int32) (c_clipToOne : Nat → Int32) (c_clipToTwo : Nat → Int32) (c_gains : Nat → Int32) (k31 : Int32 → (Nat → Int32) → (Nat → Int32) → (Nat → Int32) → (Nat → Int32) → Int32 → Option (Int32 × (Nat → Int32) × (Nat → Int32) × (Nat → Int32) × (Nat → Int32))) : Nat → Int32 → (Nat → Int32) → (Nat → Int32) → (Nat → Int32) → (Nat → Int32) → Int32 → Int32 → Option (Int32 × (Nat → Int32) × (Nat → Int32) × (Nat → Int32) × (Nat → Int32))
  | 0, _, _, _, _, _, _, _ => none
  | n + 1, c_entries, c_firstOf, c_left, c_next, c_slots, v1, v2 =>
    (rdI 10 c_firstOf (v1 + 1)).bind fun t1 =>
    (if t1 ≤ v2 then
      (wrI 10 c_firstOf (v1 + 2) c_entries).bind fun t3 =>
      k31 c_entries t3 c_left c_next c_slots (v1 + 1)
    else
      (f_X4_spreadEntry N c_places c_clipAll c_clipToOne c_clipToTwo c_firstOf c_gains c_entries c_left c_next c_slots v1 v2).bind fun (o4, o5, o6, o7) =>
      f_X4_spread_46 N c_askers c_places c_seatBits c_clipAll c_clipToOne c_clipToTwo c_gains k31 n o4 c_firstOf o5 o6 o7 v1 (v2 + 1))
set_option maxHeartbeats 4000000 in
set_option maxRecDepth 100000 in
theorem g_X4_spread_46 {κ : KC} {ω : KW} {A : Nat → Prop} {ad : Nat → Nat}  {N : Nat} {c_askers : Int32} {c_places : Int32} {c_seatBits : Int32} {c_clipAll : Nat → Int32} {c_clipToOne : Nat → Int32} {c_clipToTwo : Nat → Int32} {c_gains : Nat → Int32}  {k31 : Int32 → (Nat → Int32) → (Nat → Int32) → (Nat → Int32) → (Nat → Int32) → Int32 → Option (Int32 × (Nat → Int32) × (Nat → Int32) × (Nat → Int32) × (Nat → Int32))} {res : Int32 × (Nat → Int32) × (Nat → Int32) × (Nat → Int32) × (Nat → Int32)} (hk31 : ∀ {c_entries : Int32} {c_firstOf : Nat → Int32} {c_left : Nat → Int32} {c_next : Nat → Int32} {c_slots : Nat → Int32} {v1 : Int32}, k31 c_entries c_firstOf c_left c_next c_slots v1 = some res → GG mu_X4_spread κ ω A (QR κ ω A ad (none) (w_X4_spread c_askers c_places c_seatBits res.1 c_clipAll c_clipToOne c_clipToTwo res.2.1 c_gains res.2.2.1 res.2.2.2.1 res.2.2.2.2)) ad 0 0 31 (w_X4_spread c_askers c_places c_seatBits c_entries c_clipAll c_clipToOne c_clipToTwo c_firstOf c_gains c_left c_next c_slots) [some (.ref 0), some (.int v1), none] []) : ∀ (n : Nat) {c_entries : Int32} {c_firstOf : Nat → Int32} {c_left : Nat → Int32} {c_next : Nat → Int32} {c_slots : Nat → Int32} {v1 : Int32} {v2 : Int32}, f_X4_spread_46 N c_askers c_places c_seatBits c_clipAll c_clipToOne c_clipToTwo c_gains k31 n c_entries c_firstOf c_left c_next c_slots v1 v2 = some res → GG mu_X4_spread κ ω A (QR κ ω A ad (none) (w_X4_spread c_askers c_places c_seatBits res.1 c_clipAll c_clipToOne c_clipToTwo res.2.1 c_gains res.2.2.1 res.2.2.2.1 res.2.2.2.2)) ad 0 0 46 (w_X4_spread c_askers c_places c_seatBits c_entries c_clipAll c_clipToOne c_clipToTwo c_firstOf c_gains c_left c_next c_slots) [some (.ref 0), some (.int v1), some (.int v2)] [] := by
  intro n
  induction n with
  | zero => intro c_entries c_firstOf c_left c_next c_slots v1 v2 hf; exact ob_0 hf
  | succ n ih =>
    intro c_entries c_firstOf c_left c_next c_slots v1 v2 hf
    refine G_iload_n dX4_spread_46 rfl rfl ?_
    refine G_aload_n dX4_spread_47 rfl rfl ?_
    refine G_get (v := .ref 4) F_X4_37 dX4_spread_48 rfl rfl ?_
    refine G_iload_n dX4_spread_51 rfl rfl ?_
    refine G_iconst 1 dX4_spread_52 (by decide) ?_
    refine G_iadd dX4_spread_53 ?_
    obtain ⟨t1, ht1, hf⟩ := ob hf
    refine G_iald dX4_spread_54 rfl ht1 ?_
    refine G_icmp_ge 70 dX4_spread_55 (by decide) (fun h2 => ?_) (fun h2 => ?_)
    · replace hf := ob_t h2 hf
      refine G_aload_n dX4_spread_70 rfl rfl ?_
      refine G_get (v := .ref 4) F_X4_37 dX4_spread_71 rfl rfl ?_
      refine G_iload_n dX4_spread_74 rfl rfl ?_
      refine G_iconst 2 dX4_spread_75 (by decide) ?_
      refine G_iadd dX4_spread_76 ?_
      refine G_aload_n dX4_spread_77 rfl rfl ?_
      refine G_get (v := .int c_entries) F_X4_90 dX4_spread_78 rfl rfl ?_
      obtain ⟨t3, ht3, hf⟩ := ob hf
      refine G_iast (w2 := (w_X4_spread c_askers c_places c_seatBits c_entries c_clipAll c_clipToOne c_clipToTwo t3 c_gains c_left c_next c_slots)) dX4_spread_81 rfl ht3 rfl ?_
      refine G_iinc 1 dX4_spread_82 (by decide) rfl (ltb rfl) ?_
      change GG _ _ _ _ _ _ _ _ _ _ [some (.ref 0), some (.int (v1 + 1)), some (.int v2)] _
      refine G_goto 31 dX4_spread_85 (by decide) ?_
      refine GG.sb (lv2 := [some (.ref 0), some (.int (v1 + 1)), none]) ?_ (lvS_v rfl (lvS_v rfl (lvS_n (lvS_e))))
      exact hk31 hf
    · replace hf := ob_f h2 hf
      refine G_aload_n dX4_spread_58 rfl rfl ?_
      refine G_iload_n dX4_spread_59 rfl rfl ?_
      refine G_iload_n dX4_spread_60 rfl rfl ?_
      obtain ⟨⟨o4, o5, o6, o7⟩, hc8, hf⟩ := ob hf
      refine G_callV (μ2 := mu_X4_spreadEntry) (As := [.int v1, .int v2]) (w2 := (w_X4_spread c_askers c_places c_seatBits o4 c_clipAll c_clipToOne c_clipToTwo c_firstOf c_gains o5 o6 o7)) (wc := (w_X4_spreadEntry c_places c_entries c_clipAll c_clipToOne c_clipToTwo c_firstOf c_gains c_left c_next c_slots c_askers c_seatBits)) (wc2 := (w_X4_spreadEntry c_places o4 c_clipAll c_clipToOne c_clipToTwo c_firstOf c_gains o5 o6 o7 c_askers c_seatBits)) (rest := []) (rv := []) [0, 1, 2, 3, 4, 5, 6, 7, 8] [1000, 1001, 1002, 1003] [] [0, 1, 2, 3, 4, 5, 6, 7, 8] (c_X4_spreadEntry hc8) cw_X4_spreadEntry m_X4_93 dX4_spread_61 rfl ⟨leb rfl, leb rfl⟩ ⟨rfl, rfl⟩ rfl ⟨_, rfl, rfl⟩ (Fit.mk rfl rfl rfl) rfl (leb rfl) (ROsub.nil rfl rfl) rfl ?_
      change GG _ _ _ _ _ _ _ _ _ (w_X4_spread c_askers c_places c_seatBits o4 c_clipAll c_clipToOne c_clipToTwo c_firstOf c_gains o5 o6 o7) [some (.ref 0), some (.int v1), some (.int v2)] []
      refine G_iinc 1 dX4_spread_64 (by decide) rfl (ltb rfl) ?_
      change GG _ _ _ _ _ _ _ _ _ _ [some (.ref 0), some (.int v1), some (.int (v2 + 1))] _
      refine G_goto 46 dX4_spread_67 (by decide) ?_
      exact ih hf
def f_X4_spread_31 (N : Nat) (c_askers : Int32) (c_places : Int32) (c_seatBits : Int32) (c_clipAll : Nat → Int32) (c_clipToOne : Nat → Int32) (c_clipToTwo : Nat → Int32) (c_gains : Nat → Int32) : Nat → Int32 → (Nat → Int32) → (Nat → Int32) → (Nat → Int32) → (Nat → Int32) → Int32 → Option (Int32 × (Nat → Int32) × (Nat → Int32) × (Nat → Int32) × (Nat → Int32))
  | 0, _, _, _, _, _, _ => none
  | n + 1, c_entries, c_firstOf, c_left, c_next, c_slots, v1 =>
    (if c_askers ≤ v1 then
      some (c_entries, c_firstOf, c_left, c_next, c_slots)
    else
      (rdI 10 c_firstOf v1).bind fun t2 =>
      f_X4_spread_46 N c_askers c_places c_seatBits c_clipAll c_clipToOne c_clipToTwo c_gains (f_X4_spread_31 N c_askers c_places c_seatBits c_clipAll c_clipToOne c_clipToTwo c_gains n) N c_entries c_firstOf c_left c_next c_slots v1 t2)
set_option maxHeartbeats 4000000 in
set_option maxRecDepth 100000 in
theorem g_X4_spread_31 {κ : KC} {ω : KW} {A : Nat → Prop} {ad : Nat → Nat}  {N : Nat} {c_askers : Int32} {c_places : Int32} {c_seatBits : Int32} {c_clipAll : Nat → Int32} {c_clipToOne : Nat → Int32} {c_clipToTwo : Nat → Int32} {c_gains : Nat → Int32}  {res : Int32 × (Nat → Int32) × (Nat → Int32) × (Nat → Int32) × (Nat → Int32)} : ∀ (n : Nat) {c_entries : Int32} {c_firstOf : Nat → Int32} {c_left : Nat → Int32} {c_next : Nat → Int32} {c_slots : Nat → Int32} {v1 : Int32}, f_X4_spread_31 N c_askers c_places c_seatBits c_clipAll c_clipToOne c_clipToTwo c_gains n c_entries c_firstOf c_left c_next c_slots v1 = some res → GG mu_X4_spread κ ω A (QR κ ω A ad (none) (w_X4_spread c_askers c_places c_seatBits res.1 c_clipAll c_clipToOne c_clipToTwo res.2.1 c_gains res.2.2.1 res.2.2.2.1 res.2.2.2.2)) ad 0 0 31 (w_X4_spread c_askers c_places c_seatBits c_entries c_clipAll c_clipToOne c_clipToTwo c_firstOf c_gains c_left c_next c_slots) [some (.ref 0), some (.int v1), none] [] := by
  intro n
  induction n with
  | zero => intro c_entries c_firstOf c_left c_next c_slots v1 hf; exact ob_0 hf
  | succ n ih =>
    intro c_entries c_firstOf c_left c_next c_slots v1 hf
    refine G_iload_n dX4_spread_31 rfl rfl ?_
    refine G_aload_n dX4_spread_32 rfl rfl ?_
    refine G_get (v := .int c_askers) F_X4_49 dX4_spread_33 rfl rfl ?_
    refine G_icmp_ge 88 dX4_spread_36 (by decide) (fun h1 => ?_) (fun h1 => ?_)
    · replace hf := ob_t h1 hf
      obtain rfl := os hf
      exact G_return dX4_spread_88 rfl
    · replace hf := ob_f h1 hf
      refine G_aload_n dX4_spread_39 rfl rfl ?_
      refine G_get (v := .ref 4) F_X4_37 dX4_spread_40 rfl rfl ?_
      refine G_iload_n dX4_spread_43 rfl rfl ?_
      obtain ⟨t2, ht2, hf⟩ := ob hf
      refine G_iald dX4_spread_44 rfl ht2 ?_
      refine G_istore_n dX4_spread_45 rfl (ltb rfl) ?_
      change GG _ _ _ _ _ _ _ _ _ _ [some (.ref 0), some (.int v1), some (.int t2)] _
      exact g_X4_spread_46 ih N hf
def f_X4_spread (N : Nat) (c_askers : Int32) (c_places : Int32) (c_seatBits : Int32) (c_clipAll : Nat → Int32) (c_clipToOne : Nat → Int32) (c_clipToTwo : Nat → Int32) (c_gains : Nat → Int32) (c_entries : Int32) (c_firstOf : Nat → Int32) (c_left : Nat → Int32) (c_next : Nat → Int32) (c_slots : Nat → Int32)  : Option (Int32 × (Nat → Int32) × (Nat → Int32) × (Nat → Int32) × (Nat → Int32)) :=
  (wrI 1056 c_left 0 c_seatBits).bind fun t1 =>
  (wrI 10 c_firstOf 0 0).bind fun t2 =>
  (wrI 10 t2 1 1).bind fun t3 =>
  f_X4_spread_31 N c_askers c_places c_seatBits c_clipAll c_clipToOne c_clipToTwo c_gains N 1 t3 t1 c_next c_slots 0
set_option maxHeartbeats 4000000 in
set_option maxRecDepth 100000 in
theorem c_X4_spread {N : Nat} {c_askers : Int32} {c_places : Int32} {c_seatBits : Int32} {c_clipAll : Nat → Int32} {c_clipToOne : Nat → Int32} {c_clipToTwo : Nat → Int32} {c_gains : Nat → Int32} {c_entries : Int32} {c_firstOf : Nat → Int32} {c_left : Nat → Int32} {c_next : Nat → Int32} {c_slots : Nat → Int32}   {res : Int32 × (Nat → Int32) × (Nat → Int32) × (Nat → Int32) × (Nat → Int32)} (hf : f_X4_spread N c_askers c_places c_seatBits c_clipAll c_clipToOne c_clipToTwo c_gains c_entries c_firstOf c_left c_next c_slots = some res) : Con mu_X4_spread [.ref 0] (w_X4_spread c_askers c_places c_seatBits c_entries c_clipAll c_clipToOne c_clipToTwo c_firstOf c_gains c_left c_next c_slots) (none) (w_X4_spread c_askers c_places c_seatBits res.1 c_clipAll c_clipToOne c_clipToTwo res.2.1 c_gains res.2.2.1 res.2.2.2.1 res.2.2.2.2) := by
  refine Con.mk (show plainName RX4 = true by decide +kernel) (leb rfl) (fun κ ω A ad => ?_)
  change GG mu_X4_spread κ ω A (QR κ ω A ad (none) (w_X4_spread c_askers c_places c_seatBits res.1 c_clipAll c_clipToOne c_clipToTwo res.2.1 c_gains res.2.2.1 res.2.2.2.1 res.2.2.2.2)) ad 0 0 0 (w_X4_spread c_askers c_places c_seatBits c_entries c_clipAll c_clipToOne c_clipToTwo c_firstOf c_gains c_left c_next c_slots) [some (.ref 0), none, none] []
  refine G_aload_n dX4_spread_0 rfl rfl ?_
  refine G_get (v := .ref 6) F_X4_25 dX4_spread_1 rfl rfl ?_
  refine G_iconst 0 dX4_spread_4 (by decide) ?_
  refine G_aload_n dX4_spread_5 rfl rfl ?_
  refine G_get (v := .int c_seatBits) F_X4_68 dX4_spread_6 rfl rfl ?_
  obtain ⟨t1, ht1, hf⟩ := ob hf
  refine G_iast (w2 := (w_X4_spread c_askers c_places c_seatBits c_entries c_clipAll c_clipToOne c_clipToTwo c_firstOf c_gains t1 c_next c_slots)) dX4_spread_9 rfl ht1 rfl ?_
  refine G_aload_n dX4_spread_10 rfl rfl ?_
  refine G_iconst 1 dX4_spread_11 (by decide) ?_
  refine G_put (w2 := (w_X4_spread c_askers c_places c_seatBits 1 c_clipAll c_clipToOne c_clipToTwo c_firstOf c_gains t1 c_next c_slots)) F_X4_90 dX4_spread_12 rfl rfl rfl (ltb rfl) rfl ?_
  refine G_aload_n dX4_spread_15 rfl rfl ?_
  refine G_get (v := .ref 4) F_X4_37 dX4_spread_16 rfl rfl ?_
  refine G_iconst 0 dX4_spread_19 (by decide) ?_
  refine G_iconst 0 dX4_spread_20 (by decide) ?_
  obtain ⟨t2, ht2, hf⟩ := ob hf
  refine G_iast (w2 := (w_X4_spread c_askers c_places c_seatBits 1 c_clipAll c_clipToOne c_clipToTwo t2 c_gains t1 c_next c_slots)) dX4_spread_21 rfl ht2 rfl ?_
  refine G_aload_n dX4_spread_22 rfl rfl ?_
  refine G_get (v := .ref 4) F_X4_37 dX4_spread_23 rfl rfl ?_
  refine G_iconst 1 dX4_spread_26 (by decide) ?_
  refine G_iconst 1 dX4_spread_27 (by decide) ?_
  obtain ⟨t3, ht3, hf⟩ := ob hf
  refine G_iast (w2 := (w_X4_spread c_askers c_places c_seatBits 1 c_clipAll c_clipToOne c_clipToTwo t3 c_gains t1 c_next c_slots)) dX4_spread_28 rfl ht3 rfl ?_
  refine G_iconst 0 dX4_spread_29 (by decide) ?_
  refine G_istore_n dX4_spread_30 rfl (ltb rfl) ?_
  change GG _ _ _ _ _ _ _ _ _ _ [some (.ref 0), some (.int 0), none] _
  exact g_X4_spread_31 N hf
set_option maxRecDepth 20000 in
theorem dX4_childOf_0 : decode cX4_childOf 0 = .ok (.iload_n 1, 1) := by decide +kernel
set_option maxRecDepth 20000 in
theorem dX4_childOf_1 : decode cX4_childOf 1 = .ok (.ifCond .lt 20, 3) := by decide +kernel
set_option maxRecDepth 20000 in
theorem dX4_childOf_4 : decode cX4_childOf 4 = .ok (.iload_n 1, 1) := by decide +kernel
set_option maxRecDepth 20000 in
theorem dX4_childOf_5 : decode cX4_childOf 5 = .ok (.sipush 1056, 3) := by decide +kernel
set_option maxRecDepth 20000 in
theorem dX4_childOf_8 : decode cX4_childOf 8 = .ok (.if_icmp .ge 13, 3) := by decide +kernel
set_option maxRecDepth 20000 in
theorem dX4_childOf_11 : decode cX4_childOf 11 = .ok (.iload_n 2, 1) := by decide +kernel
set_option maxRecDepth 20000 in
theorem dX4_childOf_12 : decode cX4_childOf 12 = .ok (.ifCond .lt 9, 3) := by decide +kernel
set_option maxRecDepth 20000 in
theorem dX4_childOf_15 : decode cX4_childOf 15 = .ok (.iload_n 2, 1) := by decide +kernel
set_option maxRecDepth 20000 in
theorem dX4_childOf_16 : decode cX4_childOf 16 = .ok (.bipush 7, 2) := by decide +kernel
set_option maxRecDepth 20000 in
theorem dX4_childOf_18 : decode cX4_childOf 18 = .ok (.if_icmp .lt 5, 3) := by decide +kernel
set_option maxRecDepth 20000 in
theorem dX4_childOf_21 : decode cX4_childOf 21 = .ok (.iconst (-1), 1) := by decide +kernel
set_option maxRecDepth 20000 in
theorem dX4_childOf_22 : decode cX4_childOf 22 = .ok (.ireturn, 1) := by decide +kernel
set_option maxRecDepth 20000 in
theorem dX4_childOf_23 : decode cX4_childOf 23 = .ok (.aload_n 0, 1) := by decide +kernel
set_option maxRecDepth 20000 in
theorem dX4_childOf_24 : decode cX4_childOf 24 = .ok (.getfield 34, 3) := by decide +kernel
set_option maxRecDepth 20000 in
theorem dX4_childOf_27 : decode cX4_childOf 27 = .ok (.iload_n 1, 1) := by decide +kernel
set_option maxRecDepth 20000 in
theorem dX4_childOf_28 : decode cX4_childOf 28 = .ok (.bipush 7, 2) := by decide +kernel
set_option maxRecDepth 20000 in
theorem dX4_childOf_30 : decode cX4_childOf 30 = .ok (.imul, 1) := by decide +kernel
set_option maxRecDepth 20000 in
theorem dX4_childOf_31 : decode cX4_childOf 31 = .ok (.iload_n 2, 1) := by decide +kernel
set_option maxRecDepth 20000 in
theorem dX4_childOf_32 : decode cX4_childOf 32 = .ok (.iadd, 1) := by decide +kernel
set_option maxRecDepth 20000 in
theorem dX4_childOf_33 : decode cX4_childOf 33 = .ok (.iaload, 1) := by decide +kernel
set_option maxRecDepth 20000 in
theorem dX4_childOf_34 : decode cX4_childOf 34 = .ok (.istore_n 3, 1) := by decide +kernel
set_option maxRecDepth 20000 in
theorem dX4_childOf_35 : decode cX4_childOf 35 = .ok (.iload_n 3, 1) := by decide +kernel
set_option maxRecDepth 20000 in
theorem dX4_childOf_36 : decode cX4_childOf 36 = .ok (.ifCond .lt 14, 3) := by decide +kernel
set_option maxRecDepth 20000 in
theorem dX4_childOf_39 : decode cX4_childOf 39 = .ok (.iload_n 3, 1) := by decide +kernel
set_option maxRecDepth 20000 in
theorem dX4_childOf_40 : decode cX4_childOf 40 = .ok (.sipush 1056, 3) := by decide +kernel
set_option maxRecDepth 20000 in
theorem dX4_childOf_43 : decode cX4_childOf 43 = .ok (.if_icmp .ge 7, 3) := by decide +kernel
set_option maxRecDepth 20000 in
theorem dX4_childOf_46 : decode cX4_childOf 46 = .ok (.iload_n 3, 1) := by decide +kernel
set_option maxRecDepth 20000 in
theorem dX4_childOf_47 : decode cX4_childOf 47 = .ok (.goto 4, 3) := by decide +kernel
set_option maxRecDepth 20000 in
theorem dX4_childOf_50 : decode cX4_childOf 50 = .ok (.iconst (-1), 1) := by decide +kernel
set_option maxRecDepth 20000 in
theorem dX4_childOf_51 : decode cX4_childOf 51 = .ok (.ireturn, 1) := by decide +kernel
def f_X4_childOf (N : Nat) (c_next : Nat → Int32) (a1 : Int32) (a2 : Int32) : Option (Int32) :=
  (if a1 < 0 then
    some (-1 : Int32)
  else
    (if 1056 ≤ a1 then
      some (-1 : Int32)
    else
      (if a2 < 0 then
        some (-1 : Int32)
      else
        (if a2 < 7 then
          (rdI 7392 c_next ((a1 * 7) + a2)).bind fun t5 =>
          (if t5 < 0 then
            some (-1 : Int32)
          else
            (if 1056 ≤ t5 then
              some (-1 : Int32)
            else
              some t5))
        else
          some (-1 : Int32)))))
set_option maxHeartbeats 4000000 in
set_option maxRecDepth 100000 in
theorem c_X4_childOf {N : Nat} {c_next : Nat → Int32}  {u_askers : Int32} {u_places : Int32} {u_seatBits : Int32} {u_entries : Int32} {a1 : Int32} {a2 : Int32} {res : Int32} (hf : f_X4_childOf N c_next a1 a2 = some res) : Con mu_X4_childOf [.ref 0, .int a1, .int a2] (w_X4_childOf c_next u_askers u_places u_seatBits u_entries) (some (.int res)) (w_X4_childOf c_next u_askers u_places u_seatBits u_entries) := by
  refine Con.mk (show plainName RX4 = true by decide +kernel) (leb rfl) (fun κ ω A ad => ?_)
  change GG mu_X4_childOf κ ω A (QR κ ω A ad (some (.int res)) (w_X4_childOf c_next u_askers u_places u_seatBits u_entries)) ad 0 0 0 (w_X4_childOf c_next u_askers u_places u_seatBits u_entries) [some (.ref 0), some (.int a1), some (.int a2), none] []
  refine G_iload_n dX4_childOf_0 rfl rfl ?_
  refine G_if_lt 21 dX4_childOf_1 (by decide) (fun h1 => ?_) (fun h1 => ?_)
  · replace hf := ob_t h1 hf
    refine G_iconst (-1 : Int32) dX4_childOf_21 (by decide) ?_
    obtain rfl := os hf
    exact G_ireturn dX4_childOf_22 rfl
  · replace hf := ob_f h1 hf
    refine G_iload_n dX4_childOf_4 rfl rfl ?_
    refine G_sipush 1056 dX4_childOf_5 (by decide) ?_
    refine G_icmp_ge 21 dX4_childOf_8 (by decide) (fun h2 => ?_) (fun h2 => ?_)
    · replace hf := ob_t h2 hf
      refine G_iconst (-1 : Int32) dX4_childOf_21 (by decide) ?_
      obtain rfl := os hf
      exact G_ireturn dX4_childOf_22 rfl
    · replace hf := ob_f h2 hf
      refine G_iload_n dX4_childOf_11 rfl rfl ?_
      refine G_if_lt 21 dX4_childOf_12 (by decide) (fun h3 => ?_) (fun h3 => ?_)
      · replace hf := ob_t h3 hf
        refine G_iconst (-1 : Int32) dX4_childOf_21 (by decide) ?_
        obtain rfl := os hf
        exact G_ireturn dX4_childOf_22 rfl
      · replace hf := ob_f h3 hf
        refine G_iload_n dX4_childOf_15 rfl rfl ?_
        refine G_bipush 7 dX4_childOf_16 (by decide) ?_
        refine G_icmp_lt 23 dX4_childOf_18 (by decide) (fun h4 => ?_) (fun h4 => ?_)
        · replace hf := ob_t h4 hf
          refine G_aload_n dX4_childOf_23 rfl rfl ?_
          refine G_get (v := .ref 1) F_X4_34 dX4_childOf_24 rfl rfl ?_
          refine G_iload_n dX4_childOf_27 rfl rfl ?_
          refine G_bipush 7 dX4_childOf_28 (by decide) ?_
          refine G_imul dX4_childOf_30 ?_
          refine G_iload_n dX4_childOf_31 rfl rfl ?_
          refine G_iadd dX4_childOf_32 ?_
          obtain ⟨t5, ht5, hf⟩ := ob hf
          refine G_iald dX4_childOf_33 rfl ht5 ?_
          refine G_istore_n dX4_childOf_34 rfl (ltb rfl) ?_
          change GG _ _ _ _ _ _ _ _ _ _ [some (.ref 0), some (.int a1), some (.int a2), some (.int t5)] _
          refine G_iload_n dX4_childOf_35 rfl rfl ?_
          refine G_if_lt 50 dX4_childOf_36 (by decide) (fun h6 => ?_) (fun h6 => ?_)
          · replace hf := ob_t h6 hf
            refine G_iconst (-1 : Int32) dX4_childOf_50 (by decide) ?_
            obtain rfl := os hf
            exact G_ireturn dX4_childOf_51 rfl
          · replace hf := ob_f h6 hf
            refine G_iload_n dX4_childOf_39 rfl rfl ?_
            refine G_sipush 1056 dX4_childOf_40 (by decide) ?_
            refine G_icmp_ge 50 dX4_childOf_43 (by decide) (fun h7 => ?_) (fun h7 => ?_)
            · replace hf := ob_t h7 hf
              refine G_iconst (-1 : Int32) dX4_childOf_50 (by decide) ?_
              obtain rfl := os hf
              exact G_ireturn dX4_childOf_51 rfl
            · replace hf := ob_f h7 hf
              refine G_iload_n dX4_childOf_46 rfl rfl ?_
              refine G_goto 51 dX4_childOf_47 (by decide) ?_
              obtain rfl := os hf
              exact G_ireturn dX4_childOf_51 rfl
        · replace hf := ob_f h4 hf
          refine G_iconst (-1 : Int32) dX4_childOf_21 (by decide) ?_
          obtain rfl := os hf
          exact G_ireturn dX4_childOf_22 rfl
set_option maxRecDepth 20000 in
theorem dX4_weighEntry_0 : decode cX4_weighEntry 0 = .ok (.ldc 85, 2) := by decide +kernel
set_option maxRecDepth 20000 in
theorem dX4_weighEntry_2 : decode cX4_weighEntry 2 = .ok (.istore_n 3, 1) := by decide +kernel
set_option maxRecDepth 20000 in
theorem dX4_weighEntry_3 : decode cX4_weighEntry 3 = .ok (.iconst 0, 1) := by decide +kernel
set_option maxRecDepth 20000 in
theorem dX4_weighEntry_4 : decode cX4_weighEntry 4 = .ok (.istore 4, 2) := by decide +kernel
set_option maxRecDepth 20000 in
theorem dX4_weighEntry_6 : decode cX4_weighEntry 6 = .ok (.iconst 0, 1) := by decide +kernel
set_option maxRecDepth 20000 in
theorem dX4_weighEntry_7 : decode cX4_weighEntry 7 = .ok (.istore 5, 2) := by decide +kernel
set_option maxRecDepth 20000 in
theorem dX4_weighEntry_9 : decode cX4_weighEntry 9 = .ok (.iload 5, 2) := by decide +kernel
set_option maxRecDepth 20000 in
theorem dX4_weighEntry_11 : decode cX4_weighEntry 11 = .ok (.aload_n 0, 1) := by decide +kernel
set_option maxRecDepth 20000 in
theorem dX4_weighEntry_12 : decode cX4_weighEntry 12 = .ok (.getfield 63, 3) := by decide +kernel
set_option maxRecDepth 20000 in
theorem dX4_weighEntry_15 : decode cX4_weighEntry 15 = .ok (.if_icmp .gt 100, 3) := by decide +kernel
set_option maxRecDepth 20000 in
theorem dX4_weighEntry_18 : decode cX4_weighEntry 18 = .ok (.aload_n 0, 1) := by decide +kernel
set_option maxRecDepth 20000 in
theorem dX4_weighEntry_19 : decode cX4_weighEntry 19 = .ok (.iload_n 2, 1) := by decide +kernel
set_option maxRecDepth 20000 in
theorem dX4_weighEntry_20 : decode cX4_weighEntry 20 = .ok (.iload 5, 2) := by decide +kernel
set_option maxRecDepth 20000 in
theorem dX4_weighEntry_22 : decode cX4_weighEntry 22 = .ok (.invokevirtual 104, 3) := by decide +kernel
set_option maxRecDepth 20000 in
theorem dX4_weighEntry_25 : decode cX4_weighEntry 25 = .ok (.istore 6, 2) := by decide +kernel
set_option maxRecDepth 20000 in
theorem dX4_weighEntry_27 : decode cX4_weighEntry 27 = .ok (.iload 6, 2) := by decide +kernel
set_option maxRecDepth 20000 in
theorem dX4_weighEntry_29 : decode cX4_weighEntry 29 = .ok (.iconst (-1), 1) := by decide +kernel
set_option maxRecDepth 20000 in
theorem dX4_weighEntry_30 : decode cX4_weighEntry 30 = .ok (.if_icmp .eq 79, 3) := by decide +kernel
set_option maxRecDepth 20000 in
theorem dX4_weighEntry_33 : decode cX4_weighEntry 33 = .ok (.aload_n 0, 1) := by decide +kernel
set_option maxRecDepth 20000 in
theorem dX4_weighEntry_34 : decode cX4_weighEntry 34 = .ok (.getfield 31, 3) := by decide +kernel
set_option maxRecDepth 20000 in
theorem dX4_weighEntry_37 : decode cX4_weighEntry 37 = .ok (.iload 6, 2) := by decide +kernel
set_option maxRecDepth 20000 in
theorem dX4_weighEntry_39 : decode cX4_weighEntry 39 = .ok (.iaload, 1) := by decide +kernel
set_option maxRecDepth 20000 in
theorem dX4_weighEntry_40 : decode cX4_weighEntry 40 = .ok (.ifCond .le 69, 3) := by decide +kernel
set_option maxRecDepth 20000 in
theorem dX4_weighEntry_43 : decode cX4_weighEntry 43 = .ok (.aload_n 0, 1) := by decide +kernel
set_option maxRecDepth 20000 in
theorem dX4_weighEntry_44 : decode cX4_weighEntry 44 = .ok (.getfield 19, 3) := by decide +kernel
set_option maxRecDepth 20000 in
theorem dX4_weighEntry_47 : decode cX4_weighEntry 47 = .ok (.iload_n 1, 1) := by decide +kernel
set_option maxRecDepth 20000 in
theorem dX4_weighEntry_48 : decode cX4_weighEntry 48 = .ok (.bipush 7, 2) := by decide +kernel
set_option maxRecDepth 20000 in
theorem dX4_weighEntry_50 : decode cX4_weighEntry 50 = .ok (.imul, 1) := by decide +kernel
set_option maxRecDepth 20000 in
theorem dX4_weighEntry_51 : decode cX4_weighEntry 51 = .ok (.iload 5, 2) := by decide +kernel
set_option maxRecDepth 20000 in
theorem dX4_weighEntry_53 : decode cX4_weighEntry 53 = .ok (.iadd, 1) := by decide +kernel
set_option maxRecDepth 20000 in
theorem dX4_weighEntry_54 : decode cX4_weighEntry 54 = .ok (.iaload, 1) := by decide +kernel
set_option maxRecDepth 20000 in
theorem dX4_weighEntry_55 : decode cX4_weighEntry 55 = .ok (.aload_n 0, 1) := by decide +kernel
set_option maxRecDepth 20000 in
theorem dX4_weighEntry_56 : decode cX4_weighEntry 56 = .ok (.getfield 28, 3) := by decide +kernel
set_option maxRecDepth 20000 in
theorem dX4_weighEntry_59 : decode cX4_weighEntry 59 = .ok (.iload 6, 2) := by decide +kernel
set_option maxRecDepth 20000 in
theorem dX4_weighEntry_61 : decode cX4_weighEntry 61 = .ok (.iaload, 1) := by decide +kernel
set_option maxRecDepth 20000 in
theorem dX4_weighEntry_62 : decode cX4_weighEntry 62 = .ok (.iadd, 1) := by decide +kernel
set_option maxRecDepth 20000 in
theorem dX4_weighEntry_63 : decode cX4_weighEntry 63 = .ok (.istore 7, 2) := by decide +kernel
set_option maxRecDepth 20000 in
theorem dX4_weighEntry_65 : decode cX4_weighEntry 65 = .ok (.iload 4, 2) := by decide +kernel
set_option maxRecDepth 20000 in
theorem dX4_weighEntry_67 : decode cX4_weighEntry 67 = .ok (.ifCond .eq 9, 3) := by decide +kernel
set_option maxRecDepth 20000 in
theorem dX4_weighEntry_70 : decode cX4_weighEntry 70 = .ok (.iload 7, 2) := by decide +kernel
set_option maxRecDepth 20000 in
theorem dX4_weighEntry_72 : decode cX4_weighEntry 72 = .ok (.iload_n 3, 1) := by decide +kernel
set_option maxRecDepth 20000 in
theorem dX4_weighEntry_73 : decode cX4_weighEntry 73 = .ok (.if_icmp .le 18, 3) := by decide +kernel
set_option maxRecDepth 20000 in
theorem dX4_weighEntry_76 : decode cX4_weighEntry 76 = .ok (.iload 7, 2) := by decide +kernel
set_option maxRecDepth 20000 in
theorem dX4_weighEntry_78 : decode cX4_weighEntry 78 = .ok (.istore_n 3, 1) := by decide +kernel
set_option maxRecDepth 20000 in
theorem dX4_weighEntry_79 : decode cX4_weighEntry 79 = .ok (.aload_n 0, 1) := by decide +kernel
set_option maxRecDepth 20000 in
theorem dX4_weighEntry_80 : decode cX4_weighEntry 80 = .ok (.getfield 31, 3) := by decide +kernel
set_option maxRecDepth 20000 in
theorem dX4_weighEntry_83 : decode cX4_weighEntry 83 = .ok (.iload 6, 2) := by decide +kernel
set_option maxRecDepth 20000 in
theorem dX4_weighEntry_85 : decode cX4_weighEntry 85 = .ok (.iaload, 1) := by decide +kernel
set_option maxRecDepth 20000 in
theorem dX4_weighEntry_86 : decode cX4_weighEntry 86 = .ok (.istore 4, 2) := by decide +kernel
set_option maxRecDepth 20000 in
theorem dX4_weighEntry_88 : decode cX4_weighEntry 88 = .ok (.goto 21, 3) := by decide +kernel
set_option maxRecDepth 20000 in
theorem dX4_weighEntry_91 : decode cX4_weighEntry 91 = .ok (.iload 7, 2) := by decide +kernel
set_option maxRecDepth 20000 in
theorem dX4_weighEntry_93 : decode cX4_weighEntry 93 = .ok (.iload_n 3, 1) := by decide +kernel
set_option maxRecDepth 20000 in
theorem dX4_weighEntry_94 : decode cX4_weighEntry 94 = .ok (.if_icmp .ne 15, 3) := by decide +kernel
set_option maxRecDepth 20000 in
theorem dX4_weighEntry_97 : decode cX4_weighEntry 97 = .ok (.iload 4, 2) := by decide +kernel
set_option maxRecDepth 20000 in
theorem dX4_weighEntry_99 : decode cX4_weighEntry 99 = .ok (.aload_n 0, 1) := by decide +kernel
set_option maxRecDepth 20000 in
theorem dX4_weighEntry_100 : decode cX4_weighEntry 100 = .ok (.getfield 31, 3) := by decide +kernel
set_option maxRecDepth 20000 in
theorem dX4_weighEntry_103 : decode cX4_weighEntry 103 = .ok (.iload 6, 2) := by decide +kernel
set_option maxRecDepth 20000 in
theorem dX4_weighEntry_105 : decode cX4_weighEntry 105 = .ok (.iaload, 1) := by decide +kernel
set_option maxRecDepth 20000 in
theorem dX4_weighEntry_106 : decode cX4_weighEntry 106 = .ok (.iadd, 1) := by decide +kernel
set_option maxRecDepth 20000 in
theorem dX4_weighEntry_107 : decode cX4_weighEntry 107 = .ok (.istore 4, 2) := by decide +kernel
set_option maxRecDepth 20000 in
theorem dX4_weighEntry_109 : decode cX4_weighEntry 109 = .ok (.iinc 5 1, 3) := by decide +kernel
set_option maxRecDepth 20000 in
theorem dX4_weighEntry_112 : decode cX4_weighEntry 112 = .ok (.goto (-103), 3) := by decide +kernel
set_option maxRecDepth 20000 in
theorem dX4_weighEntry_115 : decode cX4_weighEntry 115 = .ok (.aload_n 0, 1) := by decide +kernel
set_option maxRecDepth 20000 in
theorem dX4_weighEntry_116 : decode cX4_weighEntry 116 = .ok (.getfield 28, 3) := by decide +kernel
set_option maxRecDepth 20000 in
theorem dX4_weighEntry_119 : decode cX4_weighEntry 119 = .ok (.iload_n 2, 1) := by decide +kernel
set_option maxRecDepth 20000 in
theorem dX4_weighEntry_120 : decode cX4_weighEntry 120 = .ok (.iload_n 3, 1) := by decide +kernel
set_option maxRecDepth 20000 in
theorem dX4_weighEntry_121 : decode cX4_weighEntry 121 = .ok (.iastore, 1) := by decide +kernel
set_option maxRecDepth 20000 in
theorem dX4_weighEntry_122 : decode cX4_weighEntry 122 = .ok (.aload_n 0, 1) := by decide +kernel
set_option maxRecDepth 20000 in
theorem dX4_weighEntry_123 : decode cX4_weighEntry 123 = .ok (.getfield 31, 3) := by decide +kernel
set_option maxRecDepth 20000 in
theorem dX4_weighEntry_126 : decode cX4_weighEntry 126 = .ok (.iload_n 2, 1) := by decide +kernel
set_option maxRecDepth 20000 in
theorem dX4_weighEntry_127 : decode cX4_weighEntry 127 = .ok (.iload 4, 2) := by decide +kernel
set_option maxRecDepth 20000 in
theorem dX4_weighEntry_129 : decode cX4_weighEntry 129 = .ok (.iastore, 1) := by decide +kernel
set_option maxRecDepth 20000 in
theorem dX4_weighEntry_130 : decode cX4_weighEntry 130 = .ok (.return_, 1) := by decide +kernel
def f_X4_weighEntry_76 (N : Nat) (c_places : Int32) (c_gains : Nat → Int32) (c_next : Nat → Int32) (k9 : (Nat → Int32) → (Nat → Int32) → Int32 → Int32 → Int32 → Int32 → Int32 → Option ((Nat → Int32) × (Nat → Int32))) (c_best : Nat → Int32) (c_ways : Nat → Int32) (v1 : Int32) (v2 : Int32) (v5 : Int32) (v6 : Int32) (v7 : Int32) : Option ((Nat → Int32) × (Nat → Int32)) :=
    (rdI 1056 c_ways v6).bind fun t1 =>
    k9 c_best c_ways v1 v2 v7 t1 (v5 + 1)
set_option maxHeartbeats 4000000 in
set_option maxRecDepth 100000 in
theorem g_X4_weighEntry_76 {κ : KC} {ω : KW} {A : Nat → Prop} {ad : Nat → Nat} {u_askers : Int32} {u_seatBits : Int32} {u_entries : Int32} {N : Nat} {c_places : Int32} {c_gains : Nat → Int32} {c_next : Nat → Int32}  {k9 : (Nat → Int32) → (Nat → Int32) → Int32 → Int32 → Int32 → Int32 → Int32 → Option ((Nat → Int32) × (Nat → Int32))} {res : (Nat → Int32) × (Nat → Int32)} (hk9 : ∀ {c_best : Nat → Int32} {c_ways : Nat → Int32} {v1 : Int32} {v2 : Int32} {v3 : Int32} {v4 : Int32} {v5 : Int32}, k9 c_best c_ways v1 v2 v3 v4 v5 = some res → GG mu_X4_weighEntry κ ω A (QR κ ω A ad (none) (w_X4_weighEntry c_places res.1 c_gains c_next res.2 u_askers u_seatBits u_entries)) ad 0 0 9 (w_X4_weighEntry c_places c_best c_gains c_next c_ways u_askers u_seatBits u_entries) [some (.ref 0), some (.int v1), some (.int v2), some (.int v3), some (.int v4), some (.int v5), none, none] []) {c_best : Nat → Int32} {c_ways : Nat → Int32} {v1 : Int32} {v2 : Int32} {v5 : Int32} {v6 : Int32} {v7 : Int32} (hf : f_X4_weighEntry_76 N c_places c_gains c_next k9 c_best c_ways v1 v2 v5 v6 v7 = some res) : GG mu_X4_weighEntry κ ω A (QR κ ω A ad (none) (w_X4_weighEntry c_places res.1 c_gains c_next res.2 u_askers u_seatBits u_entries)) ad 0 0 76 (w_X4_weighEntry c_places c_best c_gains c_next c_ways u_askers u_seatBits u_entries) [some (.ref 0), some (.int v1), some (.int v2), none, none, some (.int v5), some (.int v6), some (.int v7)] [] := by
  refine G_iload dX4_weighEntry_76 rfl ?_
  refine G_istore_n dX4_weighEntry_78 rfl (ltb rfl) ?_
  change GG _ _ _ _ _ _ _ _ _ _ [some (.ref 0), some (.int v1), some (.int v2), some (.int v7), none, some (.int v5), some (.int v6), some (.int v7)] _
  refine G_aload_n dX4_weighEntry_79 rfl rfl ?_
  refine G_get (v := .ref 4) F_X4_31 dX4_weighEntry_80 rfl rfl ?_
  refine G_iload dX4_weighEntry_83 rfl ?_
  obtain ⟨t1, ht1, hf⟩ := ob hf
  refine G_iald dX4_weighEntry_85 rfl ht1 ?_
  refine G_istore dX4_weighEntry_86 (ltb rfl) ?_
  change GG _ _ _ _ _ _ _ _ _ _ [some (.ref 0), some (.int v1), some (.int v2), some (.int v7), some (.int t1), some (.int v5), some (.int v6), some (.int v7)] _
  refine G_goto 109 dX4_weighEntry_88 (by decide) ?_
  refine G_iinc 1 dX4_weighEntry_109 (by decide) rfl (ltb rfl) ?_
  change GG _ _ _ _ _ _ _ _ _ _ [some (.ref 0), some (.int v1), some (.int v2), some (.int v7), some (.int t1), some (.int (v5 + 1)), some (.int v6), some (.int v7)] _
  refine G_goto 9 dX4_weighEntry_112 (by decide) ?_
  refine GG.sb (lv2 := [some (.ref 0), some (.int v1), some (.int v2), some (.int v7), some (.int t1), some (.int (v5 + 1)), none, none]) ?_ (lvS_v rfl (lvS_v rfl (lvS_v rfl (lvS_v rfl (lvS_v rfl (lvS_v rfl (lvS_n (lvS_n (lvS_e)))))))))
  exact hk9 hf
def f_X4_weighEntry_9 (N : Nat) (c_places : Int32) (c_gains : Nat → Int32) (c_next : Nat → Int32) : Nat → (Nat → Int32) → (Nat → Int32) → Int32 → Int32 → Int32 → Int32 → Int32 → Option ((Nat → Int32) × (Nat → Int32))
  | 0, _, _, _, _, _, _, _ => none
  | n + 1, c_best, c_ways, v1, v2, v3, v4, v5 =>
    (if c_places < v5 then
      (wrI 1056 c_best v2 v3).bind fun t2 =>
      (wrI 1056 c_ways v2 v4).bind fun t3 =>
      some (t2, t3)
    else
      (f_X4_childOf N c_next v2 v5).bind fun r4 =>
      (if r4 = (-1 : Int32) then
        f_X4_weighEntry_9 N c_places c_gains c_next n c_best c_ways v1 v2 v3 v4 (v5 + 1)
      else
        (rdI 1056 c_ways r4).bind fun t7 =>
        (if t7 ≤ 0 then
          f_X4_weighEntry_9 N c_places c_gains c_next n c_best c_ways v1 v2 v3 v4 (v5 + 1)
        else
          (rdI 56 c_gains ((v1 * 7) + v5)).bind fun t9 =>
          (rdI 1056 c_best r4).bind fun t10 =>
          (if v4 = 0 then
            f_X4_weighEntry_76 N c_places c_gains c_next (f_X4_weighEntry_9 N c_places c_gains c_next n) c_best c_ways v1 v2 v5 r4 (t9 + t10)
          else
            (if (t9 + t10) ≤ v3 then
              (if (t9 + t10) = v3 then
                (rdI 1056 c_ways r4).bind fun t14 =>
                f_X4_weighEntry_9 N c_places c_gains c_next n c_best c_ways v1 v2 v3 (v4 + t14) (v5 + 1)
              else
                f_X4_weighEntry_9 N c_places c_gains c_next n c_best c_ways v1 v2 v3 v4 (v5 + 1))
            else
              f_X4_weighEntry_76 N c_places c_gains c_next (f_X4_weighEntry_9 N c_places c_gains c_next n) c_best c_ways v1 v2 v5 r4 (t9 + t10))))))
set_option maxHeartbeats 4000000 in
set_option maxRecDepth 100000 in
theorem g_X4_weighEntry_9 {κ : KC} {ω : KW} {A : Nat → Prop} {ad : Nat → Nat} {u_askers : Int32} {u_seatBits : Int32} {u_entries : Int32} {N : Nat} {c_places : Int32} {c_gains : Nat → Int32} {c_next : Nat → Int32}  {res : (Nat → Int32) × (Nat → Int32)} : ∀ (n : Nat) {c_best : Nat → Int32} {c_ways : Nat → Int32} {v1 : Int32} {v2 : Int32} {v3 : Int32} {v4 : Int32} {v5 : Int32}, f_X4_weighEntry_9 N c_places c_gains c_next n c_best c_ways v1 v2 v3 v4 v5 = some res → GG mu_X4_weighEntry κ ω A (QR κ ω A ad (none) (w_X4_weighEntry c_places res.1 c_gains c_next res.2 u_askers u_seatBits u_entries)) ad 0 0 9 (w_X4_weighEntry c_places c_best c_gains c_next c_ways u_askers u_seatBits u_entries) [some (.ref 0), some (.int v1), some (.int v2), some (.int v3), some (.int v4), some (.int v5), none, none] [] := by
  intro n
  induction n with
  | zero => intro c_best c_ways v1 v2 v3 v4 v5 hf; exact ob_0 hf
  | succ n ih =>
    intro c_best c_ways v1 v2 v3 v4 v5 hf
    refine G_iload dX4_weighEntry_9 rfl ?_
    refine G_aload_n dX4_weighEntry_11 rfl rfl ?_
    refine G_get (v := .int c_places) F_X4_63 dX4_weighEntry_12 rfl rfl ?_
    refine G_icmp_gt 115 dX4_weighEntry_15 (by decide) (fun h1 => ?_) (fun h1 => ?_)
    · replace hf := ob_t h1 hf
      refine G_aload_n dX4_weighEntry_115 rfl rfl ?_
      refine G_get (v := .ref 1) F_X4_28 dX4_weighEntry_116 rfl rfl ?_
      refine G_iload_n dX4_weighEntry_119 rfl rfl ?_
      refine G_iload_n dX4_weighEntry_120 rfl rfl ?_
      obtain ⟨t2, ht2, hf⟩ := ob hf
      refine G_iast (w2 := (w_X4_weighEntry c_places t2 c_gains c_next c_ways u_askers u_seatBits u_entries)) dX4_weighEntry_121 rfl ht2 rfl ?_
      refine G_aload_n dX4_weighEntry_122 rfl rfl ?_
      refine G_get (v := .ref 4) F_X4_31 dX4_weighEntry_123 rfl rfl ?_
      refine G_iload_n dX4_weighEntry_126 rfl rfl ?_
      refine G_iload dX4_weighEntry_127 rfl ?_
      obtain ⟨t3, ht3, hf⟩ := ob hf
      refine G_iast (w2 := (w_X4_weighEntry c_places t2 c_gains c_next t3 u_askers u_seatBits u_entries)) dX4_weighEntry_129 rfl ht3 rfl ?_
      obtain rfl := os hf
      exact G_return dX4_weighEntry_130 rfl
    · replace hf := ob_f h1 hf
      refine G_aload_n dX4_weighEntry_18 rfl rfl ?_
      refine G_iload_n dX4_weighEntry_19 rfl rfl ?_
      refine G_iload dX4_weighEntry_20 rfl ?_
      obtain ⟨r4, hc5, hf⟩ := ob hf
      refine G_callV (μ2 := mu_X4_childOf) (As := [.int v2, .int v5]) (w2 := (w_X4_weighEntry c_places c_best c_gains c_next c_ways u_askers u_seatBits u_entries)) (wc := (w_X4_childOf c_next u_askers c_places u_seatBits u_entries)) (wc2 := (w_X4_childOf c_next u_askers c_places u_seatBits u_entries)) (rest := []) (rv := [.int r4]) [0, 3] [1000, 2, 1001, 1002, 1, 4, 1003, 1004, 1005, 1006, 1007] [1, 2, 4] [3, 0, 1, 4, 2] (c_X4_childOf hc5) cw_X4_childOf m_X4_104 dX4_weighEntry_22 rfl ⟨leb rfl, leb rfl⟩ ⟨rfl, rfl⟩ rfl ⟨_, rfl, rfl⟩ (Fit.mk rfl rfl rfl) rfl (leb rfl) (ROsub.nil rfl rfl) rfl ?_
      change GG _ _ _ _ _ _ _ _ _ (w_X4_weighEntry c_places c_best c_gains c_next c_ways u_askers u_seatBits u_entries) [some (.ref 0), some (.int v1), some (.int v2), some (.int v3), some (.int v4), some (.int v5), none, none] [.int r4]
      refine G_istore dX4_weighEntry_25 (ltb rfl) ?_
      change GG _ _ _ _ _ _ _ _ _ _ [some (.ref 0), some (.int v1), some (.int v2), some (.int v3), some (.int v4), some (.int v5), some (.int r4), none] _
      refine G_iload dX4_weighEntry_27 rfl ?_
      refine G_iconst (-1 : Int32) dX4_weighEntry_29 (by decide) ?_
      refine G_icmp_eq 109 dX4_weighEntry_30 (by decide) (fun h6 => ?_) (fun h6 => ?_)
      · replace hf := ob_t h6 hf
        refine G_iinc 1 dX4_weighEntry_109 (by decide) rfl (ltb rfl) ?_
        change GG _ _ _ _ _ _ _ _ _ _ [some (.ref 0), some (.int v1), some (.int v2), some (.int v3), some (.int v4), some (.int (v5 + 1)), some (.int r4), none] _
        refine G_goto 9 dX4_weighEntry_112 (by decide) ?_
        refine GG.sb (lv2 := [some (.ref 0), some (.int v1), some (.int v2), some (.int v3), some (.int v4), some (.int (v5 + 1)), none, none]) ?_ (lvS_v rfl (lvS_v rfl (lvS_v rfl (lvS_v rfl (lvS_v rfl (lvS_v rfl (lvS_n (lvS_n (lvS_e)))))))))
        exact ih hf
      · replace hf := ob_f h6 hf
        refine G_aload_n dX4_weighEntry_33 rfl rfl ?_
        refine G_get (v := .ref 4) F_X4_31 dX4_weighEntry_34 rfl rfl ?_
        refine G_iload dX4_weighEntry_37 rfl ?_
        obtain ⟨t7, ht7, hf⟩ := ob hf
        refine G_iald dX4_weighEntry_39 rfl ht7 ?_
        refine G_if_le 109 dX4_weighEntry_40 (by decide) (fun h8 => ?_) (fun h8 => ?_)
        · replace hf := ob_t h8 hf
          refine G_iinc 1 dX4_weighEntry_109 (by decide) rfl (ltb rfl) ?_
          change GG _ _ _ _ _ _ _ _ _ _ [some (.ref 0), some (.int v1), some (.int v2), some (.int v3), some (.int v4), some (.int (v5 + 1)), some (.int r4), none] _
          refine G_goto 9 dX4_weighEntry_112 (by decide) ?_
          refine GG.sb (lv2 := [some (.ref 0), some (.int v1), some (.int v2), some (.int v3), some (.int v4), some (.int (v5 + 1)), none, none]) ?_ (lvS_v rfl (lvS_v rfl (lvS_v rfl (lvS_v rfl (lvS_v rfl (lvS_v rfl (lvS_n (lvS_n (lvS_e)))))))))
          exact ih hf
        · replace hf := ob_f h8 hf
          refine G_aload_n dX4_weighEntry_43 rfl rfl ?_
          refine G_get (v := .ref 2) F_X4_19 dX4_weighEntry_44 rfl rfl ?_
          refine G_iload_n dX4_weighEntry_47 rfl rfl ?_
          refine G_bipush 7 dX4_weighEntry_48 (by decide) ?_
          refine G_imul dX4_weighEntry_50 ?_
          refine G_iload dX4_weighEntry_51 rfl ?_
          refine G_iadd dX4_weighEntry_53 ?_
          obtain ⟨t9, ht9, hf⟩ := ob hf
          refine G_iald dX4_weighEntry_54 rfl ht9 ?_
          refine G_aload_n dX4_weighEntry_55 rfl rfl ?_
          refine G_get (v := .ref 1) F_X4_28 dX4_weighEntry_56 rfl rfl ?_
          refine G_iload dX4_weighEntry_59 rfl ?_
          obtain ⟨t10, ht10, hf⟩ := ob hf
          refine G_iald dX4_weighEntry_61 rfl ht10 ?_
          refine G_iadd dX4_weighEntry_62 ?_
          refine G_istore dX4_weighEntry_63 (ltb rfl) ?_
          change GG _ _ _ _ _ _ _ _ _ _ [some (.ref 0), some (.int v1), some (.int v2), some (.int v3), some (.int v4), some (.int v5), some (.int r4), some (.int (t9 + t10))] _
          refine G_iload dX4_weighEntry_65 rfl ?_
          refine G_if_eq 76 dX4_weighEntry_67 (by decide) (fun h11 => ?_) (fun h11 => ?_)
          · replace hf := ob_t h11 hf
            refine GG.sb (lv2 := [some (.ref 0), some (.int v1), some (.int v2), none, none, some (.int v5), some (.int r4), some (.int (t9 + t10))]) ?_ (lvS_v rfl (lvS_v rfl (lvS_v rfl (lvS_n (lvS_n (lvS_v rfl (lvS_v rfl (lvS_v rfl (lvS_e)))))))))
            exact g_X4_weighEntry_76 ih hf
          · replace hf := ob_f h11 hf
            refine G_iload dX4_weighEntry_70 rfl ?_
            refine G_iload_n dX4_weighEntry_72 rfl rfl ?_
            refine G_icmp_le 91 dX4_weighEntry_73 (by decide) (fun h12 => ?_) (fun h12 => ?_)
            · replace hf := ob_t h12 hf
              refine G_iload dX4_weighEntry_91 rfl ?_
              refine G_iload_n dX4_weighEntry_93 rfl rfl ?_
              refine G_icmp_ne 109 dX4_weighEntry_94 (by decide) (fun h13 => ?_) (fun h13 => ?_)
              · replace hf := ob_f h13 hf
                refine G_iinc 1 dX4_weighEntry_109 (by decide) rfl (ltb rfl) ?_
                change GG _ _ _ _ _ _ _ _ _ _ [some (.ref 0), some (.int v1), some (.int v2), some (.int v3), some (.int v4), some (.int (v5 + 1)), some (.int r4), some (.int (t9 + t10))] _
                refine G_goto 9 dX4_weighEntry_112 (by decide) ?_
                refine GG.sb (lv2 := [some (.ref 0), some (.int v1), some (.int v2), some (.int v3), some (.int v4), some (.int (v5 + 1)), none, none]) ?_ (lvS_v rfl (lvS_v rfl (lvS_v rfl (lvS_v rfl (lvS_v rfl (lvS_v rfl (lvS_n (lvS_n (lvS_e)))))))))
                exact ih hf
              · replace hf := ob_t h13 hf
                refine G_iload dX4_weighEntry_97 rfl ?_
                refine G_aload_n dX4_weighEntry_99 rfl rfl ?_
                refine G_get (v := .ref 4) F_X4_31 dX4_weighEntry_100 rfl rfl ?_
                refine G_iload dX4_weighEntry_103 rfl ?_
                obtain ⟨t14, ht14, hf⟩ := ob hf
                refine G_iald dX4_weighEntry_105 rfl ht14 ?_
                refine G_iadd dX4_weighEntry_106 ?_
                refine G_istore dX4_weighEntry_107 (ltb rfl) ?_
                change GG _ _ _ _ _ _ _ _ _ _ [some (.ref 0), some (.int v1), some (.int v2), some (.int v3), some (.int (v4 + t14)), some (.int v5), some (.int r4), some (.int (t9 + t10))] _
                refine G_iinc 1 dX4_weighEntry_109 (by decide) rfl (ltb rfl) ?_
                change GG _ _ _ _ _ _ _ _ _ _ [some (.ref 0), some (.int v1), some (.int v2), some (.int v3), some (.int (v4 + t14)), some (.int (v5 + 1)), some (.int r4), some (.int (t9 + t10))] _
                refine G_goto 9 dX4_weighEntry_112 (by decide) ?_
                refine GG.sb (lv2 := [some (.ref 0), some (.int v1), some (.int v2), some (.int v3), some (.int (v4 + t14)), some (.int (v5 + 1)), none, none]) ?_ (lvS_v rfl (lvS_v rfl (lvS_v rfl (lvS_v rfl (lvS_v rfl (lvS_v rfl (lvS_n (lvS_n (lvS_e)))))))))
                exact ih hf
            · replace hf := ob_f h12 hf
              refine GG.sb (lv2 := [some (.ref 0), some (.int v1), some (.int v2), none, none, some (.int v5), some (.int r4), some (.int (t9 + t10))]) ?_ (lvS_v rfl (lvS_v rfl (lvS_v rfl (lvS_n (lvS_n (lvS_v rfl (lvS_v rfl (lvS_v rfl (lvS_e)))))))))
              exact g_X4_weighEntry_76 ih hf
def f_X4_weighEntry (N : Nat) (c_places : Int32) (c_gains : Nat → Int32) (c_next : Nat → Int32) (c_best : Nat → Int32) (c_ways : Nat → Int32) (a1 : Int32) (a2 : Int32) : Option ((Nat → Int32) × (Nat → Int32)) :=
  f_X4_weighEntry_9 N c_places c_gains c_next N c_best c_ways a1 a2 (-2000000000 : Int32) 0 0
set_option maxHeartbeats 4000000 in
set_option maxRecDepth 100000 in
theorem c_X4_weighEntry {N : Nat} {c_places : Int32} {c_gains : Nat → Int32} {c_next : Nat → Int32} {c_best : Nat → Int32} {c_ways : Nat → Int32} {u_askers : Int32} {u_seatBits : Int32} {u_entries : Int32} {a1 : Int32} {a2 : Int32} {res : (Nat → Int32) × (Nat → Int32)} (hf : f_X4_weighEntry N c_places c_gains c_next c_best c_ways a1 a2 = some res) : Con mu_X4_weighEntry [.ref 0, .int a1, .int a2] (w_X4_weighEntry c_places c_best c_gains c_next c_ways u_askers u_seatBits u_entries) (none) (w_X4_weighEntry c_places res.1 c_gains c_next res.2 u_askers u_seatBits u_entries) := by
  refine Con.mk (show plainName RX4 = true by decide +kernel) (leb rfl) (fun κ ω A ad => ?_)
  change GG mu_X4_weighEntry κ ω A (QR κ ω A ad (none) (w_X4_weighEntry c_places res.1 c_gains c_next res.2 u_askers u_seatBits u_entries)) ad 0 0 0 (w_X4_weighEntry c_places c_best c_gains c_next c_ways u_askers u_seatBits u_entries) [some (.ref 0), some (.int a1), some (.int a2), none, none, none, none, none] []
  refine G_ldc (v := (-2000000000 : Int32)) dX4_weighEntry_0 k_X4_85 ?_
  refine G_istore_n dX4_weighEntry_2 rfl (ltb rfl) ?_
  change GG _ _ _ _ _ _ _ _ _ _ [some (.ref 0), some (.int a1), some (.int a2), some (.int (-2000000000 : Int32)), none, none, none, none] _
  refine G_iconst 0 dX4_weighEntry_3 (by decide) ?_
  refine G_istore dX4_weighEntry_4 (ltb rfl) ?_
  change GG _ _ _ _ _ _ _ _ _ _ [some (.ref 0), some (.int a1), some (.int a2), some (.int (-2000000000 : Int32)), some (.int 0), none, none, none] _
  refine G_iconst 0 dX4_weighEntry_6 (by decide) ?_
  refine G_istore dX4_weighEntry_7 (ltb rfl) ?_
  change GG _ _ _ _ _ _ _ _ _ _ [some (.ref 0), some (.int a1), some (.int a2), some (.int (-2000000000 : Int32)), some (.int 0), some (.int 0), none, none] _
  exact g_X4_weighEntry_9 N hf
set_option maxRecDepth 20000 in
theorem dX4_weigh_0 : decode cX4_weigh 0 = .ok (.aload_n 0, 1) := by decide +kernel
set_option maxRecDepth 20000 in
theorem dX4_weigh_1 : decode cX4_weigh 1 = .ok (.getfield 37, 3) := by decide +kernel
set_option maxRecDepth 20000 in
theorem dX4_weigh_4 : decode cX4_weigh 4 = .ok (.aload_n 0, 1) := by decide +kernel
set_option maxRecDepth 20000 in
theorem dX4_weigh_5 : decode cX4_weigh 5 = .ok (.getfield 49, 3) := by decide +kernel
set_option maxRecDepth 20000 in
theorem dX4_weigh_8 : decode cX4_weigh 8 = .ok (.iaload, 1) := by decide +kernel
set_option maxRecDepth 20000 in
theorem dX4_weigh_9 : decode cX4_weigh 9 = .ok (.istore_n 1, 1) := by decide +kernel
set_option maxRecDepth 20000 in
theorem dX4_weigh_10 : decode cX4_weigh 10 = .ok (.iload_n 1, 1) := by decide +kernel
set_option maxRecDepth 20000 in
theorem dX4_weigh_11 : decode cX4_weigh 11 = .ok (.aload_n 0, 1) := by decide +kernel
set_option maxRecDepth 20000 in
theorem dX4_weigh_12 : decode cX4_weigh 12 = .ok (.getfield 90, 3) := by decide +kernel
set_option maxRecDepth 20000 in
theorem dX4_weigh_15 : decode cX4_weigh 15 = .ok (.if_icmp .ge 23, 3) := by decide +kernel
set_option maxRecDepth 20000 in
theorem dX4_weigh_18 : decode cX4_weigh 18 = .ok (.aload_n 0, 1) := by decide +kernel
set_option maxRecDepth 20000 in
theorem dX4_weigh_19 : decode cX4_weigh 19 = .ok (.getfield 28, 3) := by decide +kernel
set_option maxRecDepth 20000 in
theorem dX4_weigh_22 : decode cX4_weigh 22 = .ok (.iload_n 1, 1) := by decide +kernel
set_option maxRecDepth 20000 in
theorem dX4_weigh_23 : decode cX4_weigh 23 = .ok (.iconst 0, 1) := by decide +kernel
set_option maxRecDepth 20000 in
theorem dX4_weigh_24 : decode cX4_weigh 24 = .ok (.iastore, 1) := by decide +kernel
set_option maxRecDepth 20000 in
theorem dX4_weigh_25 : decode cX4_weigh 25 = .ok (.aload_n 0, 1) := by decide +kernel
set_option maxRecDepth 20000 in
theorem dX4_weigh_26 : decode cX4_weigh 26 = .ok (.getfield 31, 3) := by decide +kernel
set_option maxRecDepth 20000 in
theorem dX4_weigh_29 : decode cX4_weigh 29 = .ok (.iload_n 1, 1) := by decide +kernel
set_option maxRecDepth 20000 in
theorem dX4_weigh_30 : decode cX4_weigh 30 = .ok (.iconst 1, 1) := by decide +kernel
set_option maxRecDepth 20000 in
theorem dX4_weigh_31 : decode cX4_weigh 31 = .ok (.iastore, 1) := by decide +kernel
set_option maxRecDepth 20000 in
theorem dX4_weigh_32 : decode cX4_weigh 32 = .ok (.iinc 1 1, 3) := by decide +kernel
set_option maxRecDepth 20000 in
theorem dX4_weigh_35 : decode cX4_weigh 35 = .ok (.goto (-25), 3) := by decide +kernel
set_option maxRecDepth 20000 in
theorem dX4_weigh_38 : decode cX4_weigh 38 = .ok (.aload_n 0, 1) := by decide +kernel
set_option maxRecDepth 20000 in
theorem dX4_weigh_39 : decode cX4_weigh 39 = .ok (.getfield 49, 3) := by decide +kernel
set_option maxRecDepth 20000 in
theorem dX4_weigh_42 : decode cX4_weigh 42 = .ok (.iconst 1, 1) := by decide +kernel
set_option maxRecDepth 20000 in
theorem dX4_weigh_43 : decode cX4_weigh 43 = .ok (.isub, 1) := by decide +kernel
set_option maxRecDepth 20000 in
theorem dX4_weigh_44 : decode cX4_weigh 44 = .ok (.istore_n 1, 1) := by decide +kernel
set_option maxRecDepth 20000 in
theorem dX4_weigh_45 : decode cX4_weigh 45 = .ok (.iload_n 1, 1) := by decide +kernel
set_option maxRecDepth 20000 in
theorem dX4_weigh_46 : decode cX4_weigh 46 = .ok (.ifCond .lt 40, 3) := by decide +kernel
set_option maxRecDepth 20000 in
theorem dX4_weigh_49 : decode cX4_weigh 49 = .ok (.aload_n 0, 1) := by decide +kernel
set_option maxRecDepth 20000 in
theorem dX4_weigh_50 : decode cX4_weigh 50 = .ok (.getfield 37, 3) := by decide +kernel
set_option maxRecDepth 20000 in
theorem dX4_weigh_53 : decode cX4_weigh 53 = .ok (.iload_n 1, 1) := by decide +kernel
set_option maxRecDepth 20000 in
theorem dX4_weigh_54 : decode cX4_weigh 54 = .ok (.iaload, 1) := by decide +kernel
set_option maxRecDepth 20000 in
theorem dX4_weigh_55 : decode cX4_weigh 55 = .ok (.istore_n 2, 1) := by decide +kernel
set_option maxRecDepth 20000 in
theorem dX4_weigh_56 : decode cX4_weigh 56 = .ok (.iload_n 2, 1) := by decide +kernel
set_option maxRecDepth 20000 in
theorem dX4_weigh_57 : decode cX4_weigh 57 = .ok (.aload_n 0, 1) := by decide +kernel
set_option maxRecDepth 20000 in
theorem dX4_weigh_58 : decode cX4_weigh 58 = .ok (.getfield 37, 3) := by decide +kernel
set_option maxRecDepth 20000 in
theorem dX4_weigh_61 : decode cX4_weigh 61 = .ok (.iload_n 1, 1) := by decide +kernel
set_option maxRecDepth 20000 in
theorem dX4_weigh_62 : decode cX4_weigh 62 = .ok (.iconst 1, 1) := by decide +kernel
set_option maxRecDepth 20000 in
theorem dX4_weigh_63 : decode cX4_weigh 63 = .ok (.iadd, 1) := by decide +kernel
set_option maxRecDepth 20000 in
theorem dX4_weigh_64 : decode cX4_weigh 64 = .ok (.iaload, 1) := by decide +kernel
set_option maxRecDepth 20000 in
theorem dX4_weigh_65 : decode cX4_weigh 65 = .ok (.if_icmp .ge 15, 3) := by decide +kernel
set_option maxRecDepth 20000 in
theorem dX4_weigh_68 : decode cX4_weigh 68 = .ok (.aload_n 0, 1) := by decide +kernel
set_option maxRecDepth 20000 in
theorem dX4_weigh_69 : decode cX4_weigh 69 = .ok (.iload_n 1, 1) := by decide +kernel
set_option maxRecDepth 20000 in
theorem dX4_weigh_70 : decode cX4_weigh 70 = .ok (.iload_n 2, 1) := by decide +kernel
set_option maxRecDepth 20000 in
theorem dX4_weigh_71 : decode cX4_weigh 71 = .ok (.invokevirtual 101, 3) := by decide +kernel
set_option maxRecDepth 20000 in
theorem dX4_weigh_74 : decode cX4_weigh 74 = .ok (.iinc 2 1, 3) := by decide +kernel
set_option maxRecDepth 20000 in
theorem dX4_weigh_77 : decode cX4_weigh 77 = .ok (.goto (-21), 3) := by decide +kernel
set_option maxRecDepth 20000 in
theorem dX4_weigh_80 : decode cX4_weigh 80 = .ok (.iinc 1 (-1), 3) := by decide +kernel
set_option maxRecDepth 20000 in
theorem dX4_weigh_83 : decode cX4_weigh 83 = .ok (.goto (-38), 3) := by decide +kernel
set_option maxRecDepth 20000 in
theorem dX4_weigh_86 : decode cX4_weigh 86 = .ok (.return_, 1) := by decide +kernel
def f_X4_weigh_56 (N : Nat) (c_askers : Int32) (c_places : Int32) (c_entries : Int32) (c_firstOf : Nat → Int32) (c_gains : Nat → Int32) (c_next : Nat → Int32) (k45 : (Nat → Int32) → (Nat → Int32) → Int32 → Option ((Nat → Int32) × (Nat → Int32))) : Nat → (Nat → Int32) → (Nat → Int32) → Int32 → Int32 → Option ((Nat → Int32) × (Nat → Int32))
  | 0, _, _, _, _ => none
  | n + 1, c_best, c_ways, v1, v2 =>
    (rdI 10 c_firstOf (v1 + 1)).bind fun t1 =>
    (if t1 ≤ v2 then
      k45 c_best c_ways (v1 + (-1))
    else
      (f_X4_weighEntry N c_places c_gains c_next c_best c_ways v1 v2).bind fun (o3, o4) =>
      f_X4_weigh_56 N c_askers c_places c_entries c_firstOf c_gains c_next k45 n o3 o4 v1 (v2 + 1))
set_option maxHeartbeats 4000000 in
set_option maxRecDepth 100000 in
theorem g_X4_weigh_56 {κ : KC} {ω : KW} {A : Nat → Prop} {ad : Nat → Nat} {u_seatBits : Int32} {N : Nat} {c_askers : Int32} {c_places : Int32} {c_entries : Int32} {c_firstOf : Nat → Int32} {c_gains : Nat → Int32} {c_next : Nat → Int32}  {k45 : (Nat → Int32) → (Nat → Int32) → Int32 → Option ((Nat → Int32) × (Nat → Int32))} {res : (Nat → Int32) × (Nat → Int32)} (hk45 : ∀ {c_best : Nat → Int32} {c_ways : Nat → Int32} {v1 : Int32}, k45 c_best c_ways v1 = some res → GG mu_X4_weigh κ ω A (QR κ ω A ad (none) (w_X4_weigh c_askers c_places c_entries res.1 c_firstOf c_gains c_next res.2 u_seatBits)) ad 0 0 45 (w_X4_weigh c_askers c_places c_entries c_best c_firstOf c_gains c_next c_ways u_seatBits) [some (.ref 0), some (.int v1), none] []) : ∀ (n : Nat) {c_best : Nat → Int32} {c_ways : Nat → Int32} {v1 : Int32} {v2 : Int32}, f_X4_weigh_56 N c_askers c_places c_entries c_firstOf c_gains c_next k45 n c_best c_ways v1 v2 = some res → GG mu_X4_weigh κ ω A (QR κ ω A ad (none) (w_X4_weigh c_askers c_places c_entries res.1 c_firstOf c_gains c_next res.2 u_seatBits)) ad 0 0 56 (w_X4_weigh c_askers c_places c_entries c_best c_firstOf c_gains c_next c_ways u_seatBits) [some (.ref 0), some (.int v1), some (.int v2)] [] := by
  intro n
  induction n with
  | zero => intro c_best c_ways v1 v2 hf; exact ob_0 hf
  | succ n ih =>
    intro c_best c_ways v1 v2 hf
    refine G_iload_n dX4_weigh_56 rfl rfl ?_
    refine G_aload_n dX4_weigh_57 rfl rfl ?_
    refine G_get (v := .ref 2) F_X4_37 dX4_weigh_58 rfl rfl ?_
    refine G_iload_n dX4_weigh_61 rfl rfl ?_
    refine G_iconst 1 dX4_weigh_62 (by decide) ?_
    refine G_iadd dX4_weigh_63 ?_
    obtain ⟨t1, ht1, hf⟩ := ob hf
    refine G_iald dX4_weigh_64 rfl ht1 ?_
    refine G_icmp_ge 80 dX4_weigh_65 (by decide) (fun h2 => ?_) (fun h2 => ?_)
    · replace hf := ob_t h2 hf
      refine G_iinc (-1) dX4_weigh_80 (by decide) rfl (ltb rfl) ?_
      change GG _ _ _ _ _ _ _ _ _ _ [some (.ref 0), some (.int (v1 + (-1))), some (.int v2)] _
      refine G_goto 45 dX4_weigh_83 (by decide) ?_
      refine GG.sb (lv2 := [some (.ref 0), some (.int (v1 + (-1))), none]) ?_ (lvS_v rfl (lvS_v rfl (lvS_n (lvS_e))))
      exact hk45 hf
    · replace hf := ob_f h2 hf
      refine G_aload_n dX4_weigh_68 rfl rfl ?_
      refine G_iload_n dX4_weigh_69 rfl rfl ?_
      refine G_iload_n dX4_weigh_70 rfl rfl ?_
      obtain ⟨⟨o3, o4⟩, hc5, hf⟩ := ob hf
      refine G_callV (μ2 := mu_X4_weighEntry) (As := [.int v1, .int v2]) (w2 := (w_X4_weigh c_askers c_places c_entries o3 c_firstOf c_gains c_next o4 u_seatBits)) (wc := (w_X4_weighEntry c_places c_best c_gains c_next c_ways c_askers u_seatBits c_entries)) (wc2 := (w_X4_weighEntry c_places o3 c_gains c_next o4 c_askers u_seatBits c_entries)) (rest := []) (rv := []) [0, 1, 3, 4, 5] [1000, 1001, 1002, 2, 1003, 1004, 1005, 1006] [2] [1, 2, 0, 3, 4, 5] (c_X4_weighEntry hc5) cw_X4_weighEntry m_X4_101 dX4_weigh_71 rfl ⟨leb rfl, leb rfl⟩ ⟨rfl, rfl⟩ rfl ⟨_, rfl, rfl⟩ (Fit.mk rfl rfl rfl) rfl (leb rfl) (ROsub.nil rfl rfl) rfl ?_
      change GG _ _ _ _ _ _ _ _ _ (w_X4_weigh c_askers c_places c_entries o3 c_firstOf c_gains c_next o4 u_seatBits) [some (.ref 0), some (.int v1), some (.int v2)] []
      refine G_iinc 1 dX4_weigh_74 (by decide) rfl (ltb rfl) ?_
      change GG _ _ _ _ _ _ _ _ _ _ [some (.ref 0), some (.int v1), some (.int (v2 + 1))] _
      refine G_goto 56 dX4_weigh_77 (by decide) ?_
      exact ih hf
def f_X4_weigh_45 (N : Nat) (c_askers : Int32) (c_places : Int32) (c_entries : Int32) (c_firstOf : Nat → Int32) (c_gains : Nat → Int32) (c_next : Nat → Int32) : Nat → (Nat → Int32) → (Nat → Int32) → Int32 → Option ((Nat → Int32) × (Nat → Int32))
  | 0, _, _, _ => none
  | n + 1, c_best, c_ways, v1 =>
    (if v1 < 0 then
      some (c_best, c_ways)
    else
      (rdI 10 c_firstOf v1).bind fun t2 =>
      f_X4_weigh_56 N c_askers c_places c_entries c_firstOf c_gains c_next (f_X4_weigh_45 N c_askers c_places c_entries c_firstOf c_gains c_next n) N c_best c_ways v1 t2)
set_option maxHeartbeats 4000000 in
set_option maxRecDepth 100000 in
theorem g_X4_weigh_45 {κ : KC} {ω : KW} {A : Nat → Prop} {ad : Nat → Nat} {u_seatBits : Int32} {N : Nat} {c_askers : Int32} {c_places : Int32} {c_entries : Int32} {c_firstOf : Nat → Int32} {c_gains : Nat → Int32} {c_next : Nat → Int32}  {res : (Nat → Int32) × (Nat → Int32)} : ∀ (n : Nat) {c_best : Nat → Int32} {c_ways : Nat → Int32} {v1 : Int32}, f_X4_weigh_45 N c_askers c_places c_entries c_firstOf c_gains c_next n c_best c_ways v1 = some res → GG mu_X4_weigh κ ω A (QR κ ω A ad (none) (w_X4_weigh c_askers c_places c_entries res.1 c_firstOf c_gains c_next res.2 u_seatBits)) ad 0 0 45 (w_X4_weigh c_askers c_places c_entries c_best c_firstOf c_gains c_next c_ways u_seatBits) [some (.ref 0), some (.int v1), none] [] := by
  intro n
  induction n with
  | zero => intro c_best c_ways v1 hf; exact ob_0 hf
  | succ n ih =>
    intro c_best c_ways v1 hf
    refine G_iload_n dX4_weigh_45 rfl rfl ?_
    refine G_if_lt 86 dX4_weigh_46 (by decide) (fun h1 => ?_) (fun h1 => ?_)
    · replace hf := ob_t h1 hf
      obtain rfl := os hf
      exact G_return dX4_weigh_86 rfl
    · replace hf := ob_f h1 hf
      refine G_aload_n dX4_weigh_49 rfl rfl ?_
      refine G_get (v := .ref 2) F_X4_37 dX4_weigh_50 rfl rfl ?_
      refine G_iload_n dX4_weigh_53 rfl rfl ?_
      obtain ⟨t2, ht2, hf⟩ := ob hf
      refine G_iald dX4_weigh_54 rfl ht2 ?_
      refine G_istore_n dX4_weigh_55 rfl (ltb rfl) ?_
      change GG _ _ _ _ _ _ _ _ _ _ [some (.ref 0), some (.int v1), some (.int t2)] _
      exact g_X4_weigh_56 ih N hf
def f_X4_weigh_10 (N : Nat) (c_askers : Int32) (c_places : Int32) (c_entries : Int32) (c_firstOf : Nat → Int32) (c_gains : Nat → Int32) (c_next : Nat → Int32) : Nat → (Nat → Int32) → (Nat → Int32) → Int32 → Option ((Nat → Int32) × (Nat → Int32))
  | 0, _, _, _ => none
  | n + 1, c_best, c_ways, v1 =>
    (if c_entries ≤ v1 then
      f_X4_weigh_45 N c_askers c_places c_entries c_firstOf c_gains c_next N c_best c_ways (c_askers - 1)
    else
      (wrI 1056 c_best v1 0).bind fun t2 =>
      (wrI 1056 c_ways v1 1).bind fun t3 =>
      f_X4_weigh_10 N c_askers c_places c_entries c_firstOf c_gains c_next n t2 t3 (v1 + 1))
set_option maxHeartbeats 4000000 in
set_option maxRecDepth 100000 in
theorem g_X4_weigh_10 {κ : KC} {ω : KW} {A : Nat → Prop} {ad : Nat → Nat} {u_seatBits : Int32} {N : Nat} {c_askers : Int32} {c_places : Int32} {c_entries : Int32} {c_firstOf : Nat → Int32} {c_gains : Nat → Int32} {c_next : Nat → Int32}  {res : (Nat → Int32) × (Nat → Int32)} : ∀ (n : Nat) {c_best : Nat → Int32} {c_ways : Nat → Int32} {v1 : Int32}, f_X4_weigh_10 N c_askers c_places c_entries c_firstOf c_gains c_next n c_best c_ways v1 = some res → GG mu_X4_weigh κ ω A (QR κ ω A ad (none) (w_X4_weigh c_askers c_places c_entries res.1 c_firstOf c_gains c_next res.2 u_seatBits)) ad 0 0 10 (w_X4_weigh c_askers c_places c_entries c_best c_firstOf c_gains c_next c_ways u_seatBits) [some (.ref 0), some (.int v1), none] [] := by
  intro n
  induction n with
  | zero => intro c_best c_ways v1 hf; exact ob_0 hf
  | succ n ih =>
    intro c_best c_ways v1 hf
    refine G_iload_n dX4_weigh_10 rfl rfl ?_
    refine G_aload_n dX4_weigh_11 rfl rfl ?_
    refine G_get (v := .int c_entries) F_X4_90 dX4_weigh_12 rfl rfl ?_
    refine G_icmp_ge 38 dX4_weigh_15 (by decide) (fun h1 => ?_) (fun h1 => ?_)
    · replace hf := ob_t h1 hf
      refine G_aload_n dX4_weigh_38 rfl rfl ?_
      refine G_get (v := .int c_askers) F_X4_49 dX4_weigh_39 rfl rfl ?_
      refine G_iconst 1 dX4_weigh_42 (by decide) ?_
      refine G_isub dX4_weigh_43 ?_
      refine G_istore_n dX4_weigh_44 rfl (ltb rfl) ?_
      change GG _ _ _ _ _ _ _ _ _ _ [some (.ref 0), some (.int (c_askers - 1)), none] _
      exact g_X4_weigh_45 N hf
    · replace hf := ob_f h1 hf
      refine G_aload_n dX4_weigh_18 rfl rfl ?_
      refine G_get (v := .ref 1) F_X4_28 dX4_weigh_19 rfl rfl ?_
      refine G_iload_n dX4_weigh_22 rfl rfl ?_
      refine G_iconst 0 dX4_weigh_23 (by decide) ?_
      obtain ⟨t2, ht2, hf⟩ := ob hf
      refine G_iast (w2 := (w_X4_weigh c_askers c_places c_entries t2 c_firstOf c_gains c_next c_ways u_seatBits)) dX4_weigh_24 rfl ht2 rfl ?_
      refine G_aload_n dX4_weigh_25 rfl rfl ?_
      refine G_get (v := .ref 5) F_X4_31 dX4_weigh_26 rfl rfl ?_
      refine G_iload_n dX4_weigh_29 rfl rfl ?_
      refine G_iconst 1 dX4_weigh_30 (by decide) ?_
      obtain ⟨t3, ht3, hf⟩ := ob hf
      refine G_iast (w2 := (w_X4_weigh c_askers c_places c_entries t2 c_firstOf c_gains c_next t3 u_seatBits)) dX4_weigh_31 rfl ht3 rfl ?_
      refine G_iinc 1 dX4_weigh_32 (by decide) rfl (ltb rfl) ?_
      change GG _ _ _ _ _ _ _ _ _ _ [some (.ref 0), some (.int (v1 + 1)), none] _
      refine G_goto 10 dX4_weigh_35 (by decide) ?_
      exact ih hf
def f_X4_weigh (N : Nat) (c_askers : Int32) (c_places : Int32) (c_entries : Int32) (c_firstOf : Nat → Int32) (c_gains : Nat → Int32) (c_next : Nat → Int32) (c_best : Nat → Int32) (c_ways : Nat → Int32)  : Option ((Nat → Int32) × (Nat → Int32)) :=
  (rdI 10 c_firstOf c_askers).bind fun t1 =>
  f_X4_weigh_10 N c_askers c_places c_entries c_firstOf c_gains c_next N c_best c_ways t1
set_option maxHeartbeats 4000000 in
set_option maxRecDepth 100000 in
theorem c_X4_weigh {N : Nat} {c_askers : Int32} {c_places : Int32} {c_entries : Int32} {c_firstOf : Nat → Int32} {c_gains : Nat → Int32} {c_next : Nat → Int32} {c_best : Nat → Int32} {c_ways : Nat → Int32} {u_seatBits : Int32}  {res : (Nat → Int32) × (Nat → Int32)} (hf : f_X4_weigh N c_askers c_places c_entries c_firstOf c_gains c_next c_best c_ways = some res) : Con mu_X4_weigh [.ref 0] (w_X4_weigh c_askers c_places c_entries c_best c_firstOf c_gains c_next c_ways u_seatBits) (none) (w_X4_weigh c_askers c_places c_entries res.1 c_firstOf c_gains c_next res.2 u_seatBits) := by
  refine Con.mk (show plainName RX4 = true by decide +kernel) (leb rfl) (fun κ ω A ad => ?_)
  change GG mu_X4_weigh κ ω A (QR κ ω A ad (none) (w_X4_weigh c_askers c_places c_entries res.1 c_firstOf c_gains c_next res.2 u_seatBits)) ad 0 0 0 (w_X4_weigh c_askers c_places c_entries c_best c_firstOf c_gains c_next c_ways u_seatBits) [some (.ref 0), none, none] []
  refine G_aload_n dX4_weigh_0 rfl rfl ?_
  refine G_get (v := .ref 2) F_X4_37 dX4_weigh_1 rfl rfl ?_
  refine G_aload_n dX4_weigh_4 rfl rfl ?_
  refine G_get (v := .int c_askers) F_X4_49 dX4_weigh_5 rfl rfl ?_
  obtain ⟨t1, ht1, hf⟩ := ob hf
  refine G_iald dX4_weigh_8 rfl ht1 ?_
  refine G_istore_n dX4_weigh_9 rfl (ltb rfl) ?_
  change GG _ _ _ _ _ _ _ _ _ _ [some (.ref 0), some (.int t1), none] _
  exact g_X4_weigh_10 N hf
set_option maxRecDepth 20000 in
theorem dX4_solve_0 : decode cX4_solve 0 = .ok (.aload_n 0, 1) := by decide +kernel
set_option maxRecDepth 20000 in
theorem dX4_solve_1 : decode cX4_solve 1 = .ok (.invokevirtual 53, 3) := by decide +kernel
set_option maxRecDepth 20000 in
theorem dX4_solve_4 : decode cX4_solve 4 = .ok (.ifCond .eq 4, 3) := by decide +kernel
set_option maxRecDepth 20000 in
theorem dX4_solve_7 : decode cX4_solve 7 = .ok (.return_, 1) := by decide +kernel
set_option maxRecDepth 20000 in
theorem dX4_solve_8 : decode cX4_solve 8 = .ok (.aload_n 0, 1) := by decide +kernel
set_option maxRecDepth 20000 in
theorem dX4_solve_9 : decode cX4_solve 9 = .ok (.aload_n 0, 1) := by decide +kernel
set_option maxRecDepth 20000 in
theorem dX4_solve_10 : decode cX4_solve 10 = .ok (.getfield 9, 3) := by decide +kernel
set_option maxRecDepth 20000 in
theorem dX4_solve_13 : decode cX4_solve 13 = .ok (.getfield 57, 3) := by decide +kernel
set_option maxRecDepth 20000 in
theorem dX4_solve_16 : decode cX4_solve 16 = .ok (.putfield 49, 3) := by decide +kernel
set_option maxRecDepth 20000 in
theorem dX4_solve_19 : decode cX4_solve 19 = .ok (.aload_n 0, 1) := by decide +kernel
set_option maxRecDepth 20000 in
theorem dX4_solve_20 : decode cX4_solve 20 = .ok (.aload_n 0, 1) := by decide +kernel
set_option maxRecDepth 20000 in
theorem dX4_solve_21 : decode cX4_solve 21 = .ok (.getfield 9, 3) := by decide +kernel
set_option maxRecDepth 20000 in
theorem dX4_solve_24 : decode cX4_solve 24 = .ok (.getfield 60, 3) := by decide +kernel
set_option maxRecDepth 20000 in
theorem dX4_solve_27 : decode cX4_solve 27 = .ok (.putfield 63, 3) := by decide +kernel
set_option maxRecDepth 20000 in
theorem dX4_solve_30 : decode cX4_solve 30 = .ok (.aload_n 0, 1) := by decide +kernel
set_option maxRecDepth 20000 in
theorem dX4_solve_31 : decode cX4_solve 31 = .ok (.aload_n 0, 1) := by decide +kernel
set_option maxRecDepth 20000 in
theorem dX4_solve_32 : decode cX4_solve 32 = .ok (.getfield 9, 3) := by decide +kernel
set_option maxRecDepth 20000 in
theorem dX4_solve_35 : decode cX4_solve 35 = .ok (.invokevirtual 64, 3) := by decide +kernel
set_option maxRecDepth 20000 in
theorem dX4_solve_38 : decode cX4_solve 38 = .ok (.putfield 68, 3) := by decide +kernel
set_option maxRecDepth 20000 in
theorem dX4_solve_41 : decode cX4_solve 41 = .ok (.aload_n 0, 1) := by decide +kernel
set_option maxRecDepth 20000 in
theorem dX4_solve_42 : decode cX4_solve 42 = .ok (.getfield 19, 3) := by decide +kernel
set_option maxRecDepth 20000 in
theorem dX4_solve_45 : decode cX4_solve 45 = .ok (.iconst 0, 1) := by decide +kernel
set_option maxRecDepth 20000 in
theorem dX4_solve_46 : decode cX4_solve 46 = .ok (.aload_n 0, 1) := by decide +kernel
set_option maxRecDepth 20000 in
theorem dX4_solve_47 : decode cX4_solve 47 = .ok (.getfield 22, 3) := by decide +kernel
set_option maxRecDepth 20000 in
theorem dX4_solve_50 : decode cX4_solve 50 = .ok (.iconst 0, 1) := by decide +kernel
set_option maxRecDepth 20000 in
theorem dX4_solve_51 : decode cX4_solve 51 = .ok (.bipush 56, 2) := by decide +kernel
set_option maxRecDepth 20000 in
theorem dX4_solve_53 : decode cX4_solve 53 = .ok (.invokestatic 70, 3) := by decide +kernel
set_option maxRecDepth 20000 in
theorem dX4_solve_56 : decode cX4_solve 56 = .ok (.aload_n 0, 1) := by decide +kernel
set_option maxRecDepth 20000 in
theorem dX4_solve_57 : decode cX4_solve 57 = .ok (.invokevirtual 76, 3) := by decide +kernel
set_option maxRecDepth 20000 in
theorem dX4_solve_60 : decode cX4_solve 60 = .ok (.aload_n 0, 1) := by decide +kernel
set_option maxRecDepth 20000 in
theorem dX4_solve_61 : decode cX4_solve 61 = .ok (.invokevirtual 79, 3) := by decide +kernel
set_option maxRecDepth 20000 in
theorem dX4_solve_64 : decode cX4_solve 64 = .ok (.aload_n 0, 1) := by decide +kernel
set_option maxRecDepth 20000 in
theorem dX4_solve_65 : decode cX4_solve 65 = .ok (.invokevirtual 82, 3) := by decide +kernel
set_option maxRecDepth 20000 in
theorem dX4_solve_68 : decode cX4_solve 68 = .ok (.return_, 1) := by decide +kernel
def f_X4_solve (N : Nat) (c_board_askers : Int32) (c_board_places : Int32) (c_gains : Nat → Int32) (c_board_seats : Nat → Int32) (c_askers : Int32) (c_places : Int32) (c_seatBits : Int32) (c_entries : Int32) (c_best : Nat → Int32) (c_clipAll : Nat → Int32) (c_clipToOne : Nat → Int32) (c_clipToTwo : Nat → Int32) (c_firstOf : Nat → Int32) (c_left : Nat → Int32) (c_next : Nat → Int32) (c_slots : Nat → Int32) (c_solvedGains : Nat → Int32) (c_ways : Nat → Int32)  : Option (Int32 × Int32 × Int32 × Int32 × (Nat → Int32) × (Nat → Int32) × (Nat → Int32) × (Nat → Int32) × (Nat → Int32) × (Nat → Int32) × (Nat → Int32) × (Nat → Int32) × (Nat → Int32) × (Nat → Int32)) :=
  (f_X4_isSolved N c_askers c_places c_seatBits c_board_askers c_board_places c_gains c_solvedGains c_board_seats).bind fun r1 =>
  (if r1 = 0 then
    (f_X0_seatBits N c_board_places c_board_seats).bind fun r4 =>
    (f_X4_setClips N c_board_askers c_board_places c_gains c_clipAll c_clipToOne c_clipToTwo).bind fun (o6, o7, o8) =>
    (f_X4_spread N c_board_askers c_board_places r4 o6 o7 o8 c_gains c_entries c_firstOf c_left c_next c_slots).bind fun (o10, o11, o12, o13, o14) =>
    (f_X4_weigh N c_board_askers c_board_places o10 o11 c_gains o13 c_best c_ways).bind fun (o16, o17) =>
    some (c_board_askers, c_board_places, r4, o10, o16, o6, o7, o8, o11, o12, o13, o14, va_cpy c_gains c_solvedGains (0 : Int32).toNatClampNeg (0 : Int32).toNatClampNeg (56 : Int32).toNatClampNeg, o17)
  else
    some (c_askers, c_places, c_seatBits, c_entries, c_best, c_clipAll, c_clipToOne, c_clipToTwo, c_firstOf, c_left, c_next, c_slots, c_solvedGains, c_ways))
set_option maxHeartbeats 4000000 in
set_option maxRecDepth 100000 in
theorem c_X4_solve {N : Nat} {c_board_askers : Int32} {c_board_places : Int32} {c_gains : Nat → Int32} {c_board_seats : Nat → Int32} {c_askers : Int32} {c_places : Int32} {c_seatBits : Int32} {c_entries : Int32} {c_best : Nat → Int32} {c_clipAll : Nat → Int32} {c_clipToOne : Nat → Int32} {c_clipToTwo : Nat → Int32} {c_firstOf : Nat → Int32} {c_left : Nat → Int32} {c_next : Nat → Int32} {c_slots : Nat → Int32} {c_solvedGains : Nat → Int32} {c_ways : Nat → Int32} {u_board_age : Int32}  {res : Int32 × Int32 × Int32 × Int32 × (Nat → Int32) × (Nat → Int32) × (Nat → Int32) × (Nat → Int32) × (Nat → Int32) × (Nat → Int32) × (Nat → Int32) × (Nat → Int32) × (Nat → Int32) × (Nat → Int32)} (hf : f_X4_solve N c_board_askers c_board_places c_gains c_board_seats c_askers c_places c_seatBits c_entries c_best c_clipAll c_clipToOne c_clipToTwo c_firstOf c_left c_next c_slots c_solvedGains c_ways = some res) : Con mu_X4_solve [.ref 0] (w_X4_solve c_askers c_places c_seatBits c_entries c_best c_board_askers c_board_places c_clipAll c_clipToOne c_clipToTwo c_firstOf c_gains c_left c_next c_slots c_solvedGains c_ways c_board_seats u_board_age) (none) (w_X4_solve res.1 res.2.1 res.2.2.1 res.2.2.2.1 res.2.2.2.2.1 c_board_askers c_board_places res.2.2.2.2.2.1 res.2.2.2.2.2.2.1 res.2.2.2.2.2.2.2.1 res.2.2.2.2.2.2.2.2.1 c_gains res.2.2.2.2.2.2.2.2.2.1 res.2.2.2.2.2.2.2.2.2.2.1 res.2.2.2.2.2.2.2.2.2.2.2.1 res.2.2.2.2.2.2.2.2.2.2.2.2.1 res.2.2.2.2.2.2.2.2.2.2.2.2.2 c_board_seats u_board_age) := by
  refine Con.mk (show plainName RX4 = true by decide +kernel) (leb rfl) (fun κ ω A ad => ?_)
  change GG mu_X4_solve κ ω A (QR κ ω A ad (none) (w_X4_solve res.1 res.2.1 res.2.2.1 res.2.2.2.1 res.2.2.2.2.1 c_board_askers c_board_places res.2.2.2.2.2.1 res.2.2.2.2.2.2.1 res.2.2.2.2.2.2.2.1 res.2.2.2.2.2.2.2.2.1 c_gains res.2.2.2.2.2.2.2.2.2.1 res.2.2.2.2.2.2.2.2.2.2.1 res.2.2.2.2.2.2.2.2.2.2.2.1 res.2.2.2.2.2.2.2.2.2.2.2.2.1 res.2.2.2.2.2.2.2.2.2.2.2.2.2 c_board_seats u_board_age)) ad 0 0 0 (w_X4_solve c_askers c_places c_seatBits c_entries c_best c_board_askers c_board_places c_clipAll c_clipToOne c_clipToTwo c_firstOf c_gains c_left c_next c_slots c_solvedGains c_ways c_board_seats u_board_age) [some (.ref 0)] []
  refine G_aload_n dX4_solve_0 rfl rfl ?_
  obtain ⟨r1, hc2, hf⟩ := ob hf
  refine G_callV (μ2 := mu_X4_isSolved) (As := []) (w2 := (w_X4_solve c_askers c_places c_seatBits c_entries c_best c_board_askers c_board_places c_clipAll c_clipToOne c_clipToTwo c_firstOf c_gains c_left c_next c_slots c_solvedGains c_ways c_board_seats u_board_age)) (wc := (w_X4_isSolved c_askers c_places c_seatBits c_board_askers c_board_places c_gains c_solvedGains c_board_seats c_entries u_board_age)) (wc2 := (w_X4_isSolved c_askers c_places c_seatBits c_board_askers c_board_places c_gains c_solvedGains c_board_seats c_entries u_board_age)) (rest := []) (rv := [.int r1]) [0, 2, 7, 11, 13] [8, 1, 12, 9, 6, 10, 3, 4, 5, 1000, 1001, 1002] [1, 3, 4, 5, 6, 8, 9, 10, 12] [9, 0, 10, 1, 2, 3, 4, 11, 5, 6, 7, 12, 8, 13] (c_X4_isSolved hc2) cw_X4_isSolved m_X4_53 dX4_solve_1 rfl ⟨leb rfl, leb rfl⟩ ⟨rfl, rfl⟩ rfl ⟨_, rfl, rfl⟩ (Fit.mk rfl rfl rfl) rfl (leb rfl) (ROsub.nil rfl rfl) rfl ?_
  change GG _ _ _ _ _ _ _ _ _ (w_X4_solve c_askers c_places c_seatBits c_entries c_best c_board_askers c_board_places c_clipAll c_clipToOne c_clipToTwo c_firstOf c_gains c_left c_next c_slots c_solvedGains c_ways c_board_seats u_board_age) [some (.ref 0)] [.int r1]
  refine G_if_eq 8 dX4_solve_4 (by decide) (fun h3 => ?_) (fun h3 => ?_)
  · replace hf := ob_t h3 hf
    refine G_aload_n dX4_solve_8 rfl rfl ?_
    refine G_aload_n dX4_solve_9 rfl rfl ?_
    refine G_get (v := .ref 2) F_X4_9 dX4_solve_10 rfl rfl ?_
    refine G_get (v := .int c_board_askers) F_X4_57 dX4_solve_13 rfl rfl ?_
    refine G_put (w2 := (w_X4_solve c_board_askers c_places c_seatBits c_entries c_best c_board_askers c_board_places c_clipAll c_clipToOne c_clipToTwo c_firstOf c_gains c_left c_next c_slots c_solvedGains c_ways c_board_seats u_board_age)) F_X4_49 dX4_solve_16 rfl rfl rfl (ltb rfl) rfl ?_
    refine G_aload_n dX4_solve_19 rfl rfl ?_
    refine G_aload_n dX4_solve_20 rfl rfl ?_
    refine G_get (v := .ref 2) F_X4_9 dX4_solve_21 rfl rfl ?_
    refine G_get (v := .int c_board_places) F_X4_60 dX4_solve_24 rfl rfl ?_
    refine G_put (w2 := (w_X4_solve c_board_askers c_board_places c_seatBits c_entries c_best c_board_askers c_board_places c_clipAll c_clipToOne c_clipToTwo c_firstOf c_gains c_left c_next c_slots c_solvedGains c_ways c_board_seats u_board_age)) F_X4_63 dX4_solve_27 rfl rfl rfl (ltb rfl) rfl ?_
    refine G_aload_n dX4_solve_30 rfl rfl ?_
    refine G_aload_n dX4_solve_31 rfl rfl ?_
    refine G_get (v := .ref 2) F_X4_9 dX4_solve_32 rfl rfl ?_
    obtain ⟨r4, hc5, hf⟩ := ob hf
    refine G_callV (μ2 := mu_X0_seatBits) (As := []) (w2 := (w_X4_solve c_board_askers c_board_places c_seatBits c_entries c_best c_board_askers c_board_places c_clipAll c_clipToOne c_clipToTwo c_firstOf c_gains c_left c_next c_slots c_solvedGains c_ways c_board_seats u_board_age)) (wc := (w_X0_seatBits c_board_places c_board_seats c_board_askers u_board_age)) (wc2 := (w_X0_seatBits c_board_places c_board_seats c_board_askers u_board_age)) (rest := [.ref 0]) (rv := [.int r4]) [2, 13] [1000, 1001, 1002] [0, 1, 3, 4, 5, 6, 7, 8, 9, 10, 11, 12] [0, 1, 12, 2, 3, 4, 5, 6, 7, 8, 9, 10, 11, 13] (c_X0_seatBits hc5) cw_X0_seatBits m_X4_64 dX4_solve_35 rfl ⟨leb rfl, leb rfl⟩ ⟨rfl, rfl⟩ rfl ⟨_, rfl, rfl⟩ (Fit.mk rfl rfl rfl) rfl (leb rfl) (ROsub.nil rfl rfl) rfl ?_
    change GG _ _ _ _ _ _ _ _ _ (w_X4_solve c_board_askers c_board_places c_seatBits c_entries c_best c_board_askers c_board_places c_clipAll c_clipToOne c_clipToTwo c_firstOf c_gains c_left c_next c_slots c_solvedGains c_ways c_board_seats u_board_age) [some (.ref 0)] [.int r4, .ref 0]
    refine G_put (w2 := (w_X4_solve c_board_askers c_board_places r4 c_entries c_best c_board_askers c_board_places c_clipAll c_clipToOne c_clipToTwo c_firstOf c_gains c_left c_next c_slots c_solvedGains c_ways c_board_seats u_board_age)) F_X4_68 dX4_solve_38 rfl rfl rfl (ltb rfl) rfl ?_
    refine G_aload_n dX4_solve_41 rfl rfl ?_
    refine G_get (v := .ref 7) F_X4_19 dX4_solve_42 rfl rfl ?_
    refine G_iconst 0 dX4_solve_45 (by decide) ?_
    refine G_aload_n dX4_solve_46 rfl rfl ?_
    refine G_get (v := .ref 11) F_X4_22 dX4_solve_47 rfl rfl ?_
    refine G_iconst 0 dX4_solve_50 (by decide) ?_
    refine G_bipush 56 dX4_solve_51 (by decide) ?_
    refine G_copyI (w2 := (w_X4_solve c_board_askers c_board_places r4 c_entries c_best c_board_askers c_board_places c_clipAll c_clipToOne c_clipToTwo c_firstOf c_gains c_left c_next c_slots (va_cpy c_gains c_solvedGains (0 : Int32).toNatClampNeg (0 : Int32).toNatClampNeg (56 : Int32).toNatClampNeg) c_ways c_board_seats u_board_age)) dX4_solve_53 m_X4_70 kn_copy ks_copy ki_copy rfl rfl (by decide) (by decide) (by decide) (by decide) (by decide) (leb rfl) (leb rfl) rfl ?_
    refine G_aload_n dX4_solve_56 rfl rfl ?_
    obtain ⟨⟨o6, o7, o8⟩, hc9, hf⟩ := ob hf
    refine G_callV (μ2 := mu_X4_setClips) (As := []) (w2 := (w_X4_solve c_board_askers c_board_places r4 c_entries c_best c_board_askers c_board_places o6 o7 o8 c_firstOf c_gains c_left c_next c_slots (va_cpy c_gains c_solvedGains (0 : Int32).toNatClampNeg (0 : Int32).toNatClampNeg (56 : Int32).toNatClampNeg) c_ways c_board_seats u_board_age)) (wc := (w_X4_setClips c_board_askers c_board_places c_clipAll c_clipToOne c_clipToTwo c_gains r4 c_entries)) (wc2 := (w_X4_setClips c_board_askers c_board_places o6 o7 o8 c_gains r4 c_entries)) (rest := []) (rv := []) [0, 3, 4, 5, 7] [2, 11, 8, 1, 12, 9, 6, 10] [1, 2, 6, 8, 9, 10, 11, 12, 13] [9, 0, 1, 10, 11, 12, 2, 13, 3, 4, 5, 6, 7, 8] (c_X4_setClips hc9) cw_X4_setClips m_X4_76 dX4_solve_57 rfl ⟨leb rfl, leb rfl⟩ ⟨rfl, rfl⟩ rfl ⟨_, rfl, rfl⟩ (Fit.mk rfl rfl rfl) rfl (leb rfl) (ROsub.nil rfl rfl) rfl ?_
    change GG _ _ _ _ _ _ _ _ _ (w_X4_solve c_board_askers c_board_places r4 c_entries c_best c_board_askers c_board_places o6 o7 o8 c_firstOf c_gains c_left c_next c_slots (va_cpy c_gains c_solvedGains (0 : Int32).toNatClampNeg (0 : Int32).toNatClampNeg (56 : Int32).toNatClampNeg) c_ways c_board_seats u_board_age) [some (.ref 0)] []
    refine G_aload_n dX4_solve_60 rfl rfl ?_
    obtain ⟨⟨o10, o11, o12, o13, o14⟩, hc15, hf⟩ := ob hf
    refine G_callV (μ2 := mu_X4_spread) (As := []) (w2 := (w_X4_solve c_board_askers c_board_places r4 o10 c_best c_board_askers c_board_places o6 o7 o8 o11 c_gains o12 o13 o14 (va_cpy c_gains c_solvedGains (0 : Int32).toNatClampNeg (0 : Int32).toNatClampNeg (56 : Int32).toNatClampNeg) c_ways c_board_seats u_board_age)) (wc := (w_X4_spread c_board_askers c_board_places r4 c_entries o6 o7 o8 c_firstOf c_gains c_left c_next c_slots)) (wc2 := (w_X4_spread c_board_askers c_board_places r4 o10 o6 o7 o8 o11 c_gains o12 o13 o14)) (rest := []) (rv := []) [0, 3, 4, 5, 6, 7, 8, 9, 10] [2, 11, 1, 12] [1, 2, 11, 12, 13] [5, 0, 1, 6, 7, 8, 9, 10, 11, 12, 13, 2, 3, 4] (c_X4_spread hc15) cw_X4_spread m_X4_79 dX4_solve_61 rfl ⟨leb rfl, leb rfl⟩ ⟨rfl, rfl⟩ rfl ⟨_, rfl, rfl⟩ (Fit.mk rfl rfl rfl) rfl (leb rfl) (ROsub.nil rfl rfl) rfl ?_
    change GG _ _ _ _ _ _ _ _ _ (w_X4_solve c_board_askers c_board_places r4 o10 c_best c_board_askers c_board_places o6 o7 o8 o11 c_gains o12 o13 o14 (va_cpy c_gains c_solvedGains (0 : Int32).toNatClampNeg (0 : Int32).toNatClampNeg (56 : Int32).toNatClampNeg) c_ways c_board_seats u_board_age) [some (.ref 0)] []
    refine G_aload_n dX4_solve_64 rfl rfl ?_
    obtain ⟨⟨o16, o17⟩, hc18, hf⟩ := ob hf
    refine G_callV (μ2 := mu_X4_weigh) (As := []) (w2 := (w_X4_solve c_board_askers c_board_places r4 o10 o16 c_board_askers c_board_places o6 o7 o8 o11 c_gains o12 o13 o14 (va_cpy c_gains c_solvedGains (0 : Int32).toNatClampNeg (0 : Int32).toNatClampNeg (56 : Int32).toNatClampNeg) o17 c_board_seats u_board_age)) (wc := (w_X4_weigh c_board_askers c_board_places o10 c_best o11 c_gains o13 c_ways r4)) (wc2 := (w_X4_weigh c_board_askers c_board_places o10 o16 o11 c_gains o13 o17 r4)) (rest := []) (rv := []) [0, 1, 6, 7, 9, 12] [2, 11, 8, 10, 3, 4, 5] [2, 3, 4, 5, 8, 10, 11, 13] [8, 9, 0, 1, 2, 3, 10, 11, 4, 12, 5, 6, 13, 7] (c_X4_weigh hc18) cw_X4_weigh m_X4_82 dX4_solve_65 rfl ⟨leb rfl, leb rfl⟩ ⟨rfl, rfl⟩ rfl ⟨_, rfl, rfl⟩ (Fit.mk rfl rfl rfl) rfl (leb rfl) (ROsub.nil rfl rfl) rfl ?_
    change GG _ _ _ _ _ _ _ _ _ (w_X4_solve c_board_askers c_board_places r4 o10 o16 c_board_askers c_board_places o6 o7 o8 o11 c_gains o12 o13 o14 (va_cpy c_gains c_solvedGains (0 : Int32).toNatClampNeg (0 : Int32).toNatClampNeg (56 : Int32).toNatClampNeg) o17 c_board_seats u_board_age) [some (.ref 0)] []
    obtain rfl := os hf
    exact G_return dX4_solve_68 rfl
  · replace hf := ob_f h3 hf
    obtain rfl := os hf
    exact G_return dX4_solve_7 rfl
set_option maxRecDepth 20000 in
theorem dX4_waysBy_0 : decode cX4_waysBy 0 = .ok (.aload_n 0, 1) := by decide +kernel
set_option maxRecDepth 20000 in
theorem dX4_waysBy_1 : decode cX4_waysBy 1 = .ok (.iload_n 2, 1) := by decide +kernel
set_option maxRecDepth 20000 in
theorem dX4_waysBy_2 : decode cX4_waysBy 2 = .ok (.iload_n 3, 1) := by decide +kernel
set_option maxRecDepth 20000 in
theorem dX4_waysBy_3 : decode cX4_waysBy 3 = .ok (.invokevirtual 104, 3) := by decide +kernel
set_option maxRecDepth 20000 in
theorem dX4_waysBy_6 : decode cX4_waysBy 6 = .ok (.istore 4, 2) := by decide +kernel
set_option maxRecDepth 20000 in
theorem dX4_waysBy_8 : decode cX4_waysBy 8 = .ok (.iload 4, 2) := by decide +kernel
set_option maxRecDepth 20000 in
theorem dX4_waysBy_10 : decode cX4_waysBy 10 = .ok (.iconst (-1), 1) := by decide +kernel
set_option maxRecDepth 20000 in
theorem dX4_waysBy_11 : decode cX4_waysBy 11 = .ok (.if_icmp .eq 13, 3) := by decide +kernel
set_option maxRecDepth 20000 in
theorem dX4_waysBy_14 : decode cX4_waysBy 14 = .ok (.aload_n 0, 1) := by decide +kernel
set_option maxRecDepth 20000 in
theorem dX4_waysBy_15 : decode cX4_waysBy 15 = .ok (.getfield 31, 3) := by decide +kernel
set_option maxRecDepth 20000 in
theorem dX4_waysBy_18 : decode cX4_waysBy 18 = .ok (.iload 4, 2) := by decide +kernel
set_option maxRecDepth 20000 in
theorem dX4_waysBy_20 : decode cX4_waysBy 20 = .ok (.iaload, 1) := by decide +kernel
set_option maxRecDepth 20000 in
theorem dX4_waysBy_21 : decode cX4_waysBy 21 = .ok (.ifCond .ne 5, 3) := by decide +kernel
set_option maxRecDepth 20000 in
theorem dX4_waysBy_24 : decode cX4_waysBy 24 = .ok (.iconst 0, 1) := by decide +kernel
set_option maxRecDepth 20000 in
theorem dX4_waysBy_25 : decode cX4_waysBy 25 = .ok (.ireturn, 1) := by decide +kernel
set_option maxRecDepth 20000 in
theorem dX4_waysBy_26 : decode cX4_waysBy 26 = .ok (.aload_n 0, 1) := by decide +kernel
set_option maxRecDepth 20000 in
theorem dX4_waysBy_27 : decode cX4_waysBy 27 = .ok (.getfield 22, 3) := by decide +kernel
set_option maxRecDepth 20000 in
theorem dX4_waysBy_30 : decode cX4_waysBy 30 = .ok (.iload_n 1, 1) := by decide +kernel
set_option maxRecDepth 20000 in
theorem dX4_waysBy_31 : decode cX4_waysBy 31 = .ok (.bipush 7, 2) := by decide +kernel
set_option maxRecDepth 20000 in
theorem dX4_waysBy_33 : decode cX4_waysBy 33 = .ok (.imul, 1) := by decide +kernel
set_option maxRecDepth 20000 in
theorem dX4_waysBy_34 : decode cX4_waysBy 34 = .ok (.iload_n 3, 1) := by decide +kernel
set_option maxRecDepth 20000 in
theorem dX4_waysBy_35 : decode cX4_waysBy 35 = .ok (.iadd, 1) := by decide +kernel
set_option maxRecDepth 20000 in
theorem dX4_waysBy_36 : decode cX4_waysBy 36 = .ok (.iaload, 1) := by decide +kernel
set_option maxRecDepth 20000 in
theorem dX4_waysBy_37 : decode cX4_waysBy 37 = .ok (.aload_n 0, 1) := by decide +kernel
set_option maxRecDepth 20000 in
theorem dX4_waysBy_38 : decode cX4_waysBy 38 = .ok (.getfield 28, 3) := by decide +kernel
set_option maxRecDepth 20000 in
theorem dX4_waysBy_41 : decode cX4_waysBy 41 = .ok (.iload 4, 2) := by decide +kernel
set_option maxRecDepth 20000 in
theorem dX4_waysBy_43 : decode cX4_waysBy 43 = .ok (.iaload, 1) := by decide +kernel
set_option maxRecDepth 20000 in
theorem dX4_waysBy_44 : decode cX4_waysBy 44 = .ok (.iadd, 1) := by decide +kernel
set_option maxRecDepth 20000 in
theorem dX4_waysBy_45 : decode cX4_waysBy 45 = .ok (.aload_n 0, 1) := by decide +kernel
set_option maxRecDepth 20000 in
theorem dX4_waysBy_46 : decode cX4_waysBy 46 = .ok (.getfield 28, 3) := by decide +kernel
set_option maxRecDepth 20000 in
theorem dX4_waysBy_49 : decode cX4_waysBy 49 = .ok (.iload_n 2, 1) := by decide +kernel
set_option maxRecDepth 20000 in
theorem dX4_waysBy_50 : decode cX4_waysBy 50 = .ok (.iaload, 1) := by decide +kernel
set_option maxRecDepth 20000 in
theorem dX4_waysBy_51 : decode cX4_waysBy 51 = .ok (.if_icmp .ne 13, 3) := by decide +kernel
set_option maxRecDepth 20000 in
theorem dX4_waysBy_54 : decode cX4_waysBy 54 = .ok (.aload_n 0, 1) := by decide +kernel
set_option maxRecDepth 20000 in
theorem dX4_waysBy_55 : decode cX4_waysBy 55 = .ok (.getfield 31, 3) := by decide +kernel
set_option maxRecDepth 20000 in
theorem dX4_waysBy_58 : decode cX4_waysBy 58 = .ok (.iload 4, 2) := by decide +kernel
set_option maxRecDepth 20000 in
theorem dX4_waysBy_60 : decode cX4_waysBy 60 = .ok (.iaload, 1) := by decide +kernel
set_option maxRecDepth 20000 in
theorem dX4_waysBy_61 : decode cX4_waysBy 61 = .ok (.goto 4, 3) := by decide +kernel
set_option maxRecDepth 20000 in
theorem dX4_waysBy_64 : decode cX4_waysBy 64 = .ok (.iconst 0, 1) := by decide +kernel
set_option maxRecDepth 20000 in
theorem dX4_waysBy_65 : decode cX4_waysBy 65 = .ok (.ireturn, 1) := by decide +kernel
def f_X4_waysBy (N : Nat) (c_best : Nat → Int32) (c_next : Nat → Int32) (c_solvedGains : Nat → Int32) (c_ways : Nat → Int32) (a1 : Int32) (a2 : Int32) (a3 : Int32) : Option (Int32) :=
  (f_X4_childOf N c_next a2 a3).bind fun r1 =>
  (if r1 = (-1 : Int32) then
    some 0
  else
    (rdI 1056 c_ways r1).bind fun t4 =>
    (if t4 = 0 then
      some 0
    else
      (rdI 56 c_solvedGains ((a1 * 7) + a3)).bind fun t6 =>
      (rdI 1056 c_best r1).bind fun t7 =>
      (rdI 1056 c_best a2).bind fun t8 =>
      (if (t6 + t7) = t8 then
        (rdI 1056 c_ways r1).bind fun t10 =>
        some t10
      else
        some 0)))
set_option maxHeartbeats 4000000 in
set_option maxRecDepth 100000 in
theorem c_X4_waysBy {N : Nat} {c_best : Nat → Int32} {c_next : Nat → Int32} {c_solvedGains : Nat → Int32} {c_ways : Nat → Int32}  {u_askers : Int32} {u_places : Int32} {u_seatBits : Int32} {u_entries : Int32} {a1 : Int32} {a2 : Int32} {a3 : Int32} {res : Int32} (hf : f_X4_waysBy N c_best c_next c_solvedGains c_ways a1 a2 a3 = some res) : Con mu_X4_waysBy [.ref 0, .int a1, .int a2, .int a3] (w_X4_waysBy c_best c_next c_solvedGains c_ways u_askers u_places u_seatBits u_entries) (some (.int res)) (w_X4_waysBy c_best c_next c_solvedGains c_ways u_askers u_places u_seatBits u_entries) := by
  refine Con.mk (show plainName RX4 = true by decide +kernel) (leb rfl) (fun κ ω A ad => ?_)
  change GG mu_X4_waysBy κ ω A (QR κ ω A ad (some (.int res)) (w_X4_waysBy c_best c_next c_solvedGains c_ways u_askers u_places u_seatBits u_entries)) ad 0 0 0 (w_X4_waysBy c_best c_next c_solvedGains c_ways u_askers u_places u_seatBits u_entries) [some (.ref 0), some (.int a1), some (.int a2), some (.int a3), none] []
  refine G_aload_n dX4_waysBy_0 rfl rfl ?_
  refine G_iload_n dX4_waysBy_1 rfl rfl ?_
  refine G_iload_n dX4_waysBy_2 rfl rfl ?_
  obtain ⟨r1, hc2, hf⟩ := ob hf
  refine G_callV (μ2 := mu_X4_childOf) (As := [.int a2, .int a3]) (w2 := (w_X4_waysBy c_best c_next c_solvedGains c_ways u_askers u_places u_seatBits u_entries)) (wc := (w_X4_childOf c_next u_askers u_places u_seatBits u_entries)) (wc2 := (w_X4_childOf c_next u_askers u_places u_seatBits u_entries)) (rest := []) (rv := [.int r1]) [0, 2] [1000, 1001, 3, 1002, 1, 4, 1003, 1004, 1005, 1006, 1007] [1, 3, 4] [3, 0, 4, 1, 2] (c_X4_childOf hc2) cw_X4_childOf m_X4_104 dX4_waysBy_3 rfl ⟨leb rfl, leb rfl⟩ ⟨rfl, rfl⟩ rfl ⟨_, rfl, rfl⟩ (Fit.mk rfl rfl rfl) rfl (leb rfl) (ROsub.nil rfl rfl) rfl ?_
  change GG _ _ _ _ _ _ _ _ _ (w_X4_waysBy c_best c_next c_solvedGains c_ways u_askers u_places u_seatBits u_entries) [some (.ref 0), some (.int a1), some (.int a2), some (.int a3), none] [.int r1]
  refine G_istore dX4_waysBy_6 (ltb rfl) ?_
  change GG _ _ _ _ _ _ _ _ _ _ [some (.ref 0), some (.int a1), some (.int a2), some (.int a3), some (.int r1)] _
  refine G_iload dX4_waysBy_8 rfl ?_
  refine G_iconst (-1 : Int32) dX4_waysBy_10 (by decide) ?_
  refine G_icmp_eq 24 dX4_waysBy_11 (by decide) (fun h3 => ?_) (fun h3 => ?_)
  · replace hf := ob_t h3 hf
    refine G_iconst 0 dX4_waysBy_24 (by decide) ?_
    obtain rfl := os hf
    exact G_ireturn dX4_waysBy_25 rfl
  · replace hf := ob_f h3 hf
    refine G_aload_n dX4_waysBy_14 rfl rfl ?_
    refine G_get (v := .ref 4) F_X4_31 dX4_waysBy_15 rfl rfl ?_
    refine G_iload dX4_waysBy_18 rfl ?_
    obtain ⟨t4, ht4, hf⟩ := ob hf
    refine G_iald dX4_waysBy_20 rfl ht4 ?_
    refine G_if_ne 26 dX4_waysBy_21 (by decide) (fun h5 => ?_) (fun h5 => ?_)
    · replace hf := ob_f h5 hf
      refine G_aload_n dX4_waysBy_26 rfl rfl ?_
      refine G_get (v := .ref 3) F_X4_22 dX4_waysBy_27 rfl rfl ?_
      refine G_iload_n dX4_waysBy_30 rfl rfl ?_
      refine G_bipush 7 dX4_waysBy_31 (by decide) ?_
      refine G_imul dX4_waysBy_33 ?_
      refine G_iload_n dX4_waysBy_34 rfl rfl ?_
      refine G_iadd dX4_waysBy_35 ?_
      obtain ⟨t6, ht6, hf⟩ := ob hf
      refine G_iald dX4_waysBy_36 rfl ht6 ?_
      refine G_aload_n dX4_waysBy_37 rfl rfl ?_
      refine G_get (v := .ref 1) F_X4_28 dX4_waysBy_38 rfl rfl ?_
      refine G_iload dX4_waysBy_41 rfl ?_
      obtain ⟨t7, ht7, hf⟩ := ob hf
      refine G_iald dX4_waysBy_43 rfl ht7 ?_
      refine G_iadd dX4_waysBy_44 ?_
      refine G_aload_n dX4_waysBy_45 rfl rfl ?_
      refine G_get (v := .ref 1) F_X4_28 dX4_waysBy_46 rfl rfl ?_
      refine G_iload_n dX4_waysBy_49 rfl rfl ?_
      obtain ⟨t8, ht8, hf⟩ := ob hf
      refine G_iald dX4_waysBy_50 rfl ht8 ?_
      refine G_icmp_ne 64 dX4_waysBy_51 (by decide) (fun h9 => ?_) (fun h9 => ?_)
      · replace hf := ob_f h9 hf
        refine G_iconst 0 dX4_waysBy_64 (by decide) ?_
        obtain rfl := os hf
        exact G_ireturn dX4_waysBy_65 rfl
      · replace hf := ob_t h9 hf
        refine G_aload_n dX4_waysBy_54 rfl rfl ?_
        refine G_get (v := .ref 4) F_X4_31 dX4_waysBy_55 rfl rfl ?_
        refine G_iload dX4_waysBy_58 rfl ?_
        obtain ⟨t10, ht10, hf⟩ := ob hf
        refine G_iald dX4_waysBy_60 rfl ht10 ?_
        refine G_goto 65 dX4_waysBy_61 (by decide) ?_
        obtain rfl := os hf
        exact G_ireturn dX4_waysBy_65 rfl
    · replace hf := ob_t h5 hf
      refine G_iconst 0 dX4_waysBy_24 (by decide) ?_
      obtain rfl := os hf
      exact G_ireturn dX4_waysBy_25 rfl
set_option maxRecDepth 20000 in
theorem dX4_pathTo_0 : decode cX4_pathTo 0 = .ok (.iconst 0, 1) := by decide +kernel
set_option maxRecDepth 20000 in
theorem dX4_pathTo_1 : decode cX4_pathTo 1 = .ok (.istore_n 3, 1) := by decide +kernel
set_option maxRecDepth 20000 in
theorem dX4_pathTo_2 : decode cX4_pathTo 2 = .ok (.iload_n 1, 1) := by decide +kernel
set_option maxRecDepth 20000 in
theorem dX4_pathTo_3 : decode cX4_pathTo 3 = .ok (.istore 4, 2) := by decide +kernel
set_option maxRecDepth 20000 in
theorem dX4_pathTo_5 : decode cX4_pathTo 5 = .ok (.iconst 0, 1) := by decide +kernel
set_option maxRecDepth 20000 in
theorem dX4_pathTo_6 : decode cX4_pathTo 6 = .ok (.istore 5, 2) := by decide +kernel
set_option maxRecDepth 20000 in
theorem dX4_pathTo_8 : decode cX4_pathTo 8 = .ok (.iload 5, 2) := by decide +kernel
set_option maxRecDepth 20000 in
theorem dX4_pathTo_10 : decode cX4_pathTo 10 = .ok (.aload_n 0, 1) := by decide +kernel
set_option maxRecDepth 20000 in
theorem dX4_pathTo_11 : decode cX4_pathTo 11 = .ok (.getfield 49, 3) := by decide +kernel
set_option maxRecDepth 20000 in
theorem dX4_pathTo_14 : decode cX4_pathTo 14 = .ok (.if_icmp .ge 85, 3) := by decide +kernel
set_option maxRecDepth 20000 in
theorem dX4_pathTo_17 : decode cX4_pathTo 17 = .ok (.iload 5, 2) := by decide +kernel
set_option maxRecDepth 20000 in
theorem dX4_pathTo_19 : decode cX4_pathTo 19 = .ok (.aload_n 2, 1) := by decide +kernel
set_option maxRecDepth 20000 in
theorem dX4_pathTo_20 : decode cX4_pathTo 20 = .ok (.arraylength, 1) := by decide +kernel
set_option maxRecDepth 20000 in
theorem dX4_pathTo_21 : decode cX4_pathTo 21 = .ok (.if_icmp .ge 78, 3) := by decide +kernel
set_option maxRecDepth 20000 in
theorem dX4_pathTo_24 : decode cX4_pathTo 24 = .ok (.iconst 0, 1) := by decide +kernel
set_option maxRecDepth 20000 in
theorem dX4_pathTo_25 : decode cX4_pathTo 25 = .ok (.istore 6, 2) := by decide +kernel
set_option maxRecDepth 20000 in
theorem dX4_pathTo_27 : decode cX4_pathTo 27 = .ok (.aload_n 0, 1) := by decide +kernel
set_option maxRecDepth 20000 in
theorem dX4_pathTo_28 : decode cX4_pathTo 28 = .ok (.iload 5, 2) := by decide +kernel
set_option maxRecDepth 20000 in
theorem dX4_pathTo_30 : decode cX4_pathTo 30 = .ok (.iload_n 3, 1) := by decide +kernel
set_option maxRecDepth 20000 in
theorem dX4_pathTo_31 : decode cX4_pathTo 31 = .ok (.iconst 0, 1) := by decide +kernel
set_option maxRecDepth 20000 in
theorem dX4_pathTo_32 : decode cX4_pathTo 32 = .ok (.invokevirtual 107, 3) := by decide +kernel
set_option maxRecDepth 20000 in
theorem dX4_pathTo_35 : decode cX4_pathTo 35 = .ok (.istore 7, 2) := by decide +kernel
set_option maxRecDepth 20000 in
theorem dX4_pathTo_37 : decode cX4_pathTo 37 = .ok (.iload 6, 2) := by decide +kernel
set_option maxRecDepth 20000 in
theorem dX4_pathTo_39 : decode cX4_pathTo 39 = .ok (.aload_n 0, 1) := by decide +kernel
set_option maxRecDepth 20000 in
theorem dX4_pathTo_40 : decode cX4_pathTo 40 = .ok (.getfield 63, 3) := by decide +kernel
set_option maxRecDepth 20000 in
theorem dX4_pathTo_43 : decode cX4_pathTo 43 = .ok (.if_icmp .ge 34, 3) := by decide +kernel
set_option maxRecDepth 20000 in
theorem dX4_pathTo_46 : decode cX4_pathTo 46 = .ok (.iload 4, 2) := by decide +kernel
set_option maxRecDepth 20000 in
theorem dX4_pathTo_48 : decode cX4_pathTo 48 = .ok (.iload 7, 2) := by decide +kernel
set_option maxRecDepth 20000 in
theorem dX4_pathTo_50 : decode cX4_pathTo 50 = .ok (.if_icmp .lt 27, 3) := by decide +kernel
set_option maxRecDepth 20000 in
theorem dX4_pathTo_53 : decode cX4_pathTo 53 = .ok (.iload 4, 2) := by decide +kernel
set_option maxRecDepth 20000 in
theorem dX4_pathTo_55 : decode cX4_pathTo 55 = .ok (.iload 7, 2) := by decide +kernel
set_option maxRecDepth 20000 in
theorem dX4_pathTo_57 : decode cX4_pathTo 57 = .ok (.isub, 1) := by decide +kernel
set_option maxRecDepth 20000 in
theorem dX4_pathTo_58 : decode cX4_pathTo 58 = .ok (.istore 4, 2) := by decide +kernel
set_option maxRecDepth 20000 in
theorem dX4_pathTo_60 : decode cX4_pathTo 60 = .ok (.iinc 6 1, 3) := by decide +kernel
set_option maxRecDepth 20000 in
theorem dX4_pathTo_63 : decode cX4_pathTo 63 = .ok (.aload_n 0, 1) := by decide +kernel
set_option maxRecDepth 20000 in
theorem dX4_pathTo_64 : decode cX4_pathTo 64 = .ok (.iload 5, 2) := by decide +kernel
set_option maxRecDepth 20000 in
theorem dX4_pathTo_66 : decode cX4_pathTo 66 = .ok (.iload_n 3, 1) := by decide +kernel
set_option maxRecDepth 20000 in
theorem dX4_pathTo_67 : decode cX4_pathTo 67 = .ok (.iload 6, 2) := by decide +kernel
set_option maxRecDepth 20000 in
theorem dX4_pathTo_69 : decode cX4_pathTo 69 = .ok (.invokevirtual 107, 3) := by decide +kernel
set_option maxRecDepth 20000 in
theorem dX4_pathTo_72 : decode cX4_pathTo 72 = .ok (.istore 7, 2) := by decide +kernel
set_option maxRecDepth 20000 in
theorem dX4_pathTo_74 : decode cX4_pathTo 74 = .ok (.goto (-37), 3) := by decide +kernel
set_option maxRecDepth 20000 in
theorem dX4_pathTo_77 : decode cX4_pathTo 77 = .ok (.aload_n 2, 1) := by decide +kernel
set_option maxRecDepth 20000 in
theorem dX4_pathTo_78 : decode cX4_pathTo 78 = .ok (.iload 5, 2) := by decide +kernel
set_option maxRecDepth 20000 in
theorem dX4_pathTo_80 : decode cX4_pathTo 80 = .ok (.iload 6, 2) := by decide +kernel
set_option maxRecDepth 20000 in
theorem dX4_pathTo_82 : decode cX4_pathTo 82 = .ok (.iconst 1, 1) := by decide +kernel
set_option maxRecDepth 20000 in
theorem dX4_pathTo_83 : decode cX4_pathTo 83 = .ok (.isub, 1) := by decide +kernel
set_option maxRecDepth 20000 in
theorem dX4_pathTo_84 : decode cX4_pathTo 84 = .ok (.iastore, 1) := by decide +kernel
set_option maxRecDepth 20000 in
theorem dX4_pathTo_85 : decode cX4_pathTo 85 = .ok (.aload_n 0, 1) := by decide +kernel
set_option maxRecDepth 20000 in
theorem dX4_pathTo_86 : decode cX4_pathTo 86 = .ok (.iload_n 3, 1) := by decide +kernel
set_option maxRecDepth 20000 in
theorem dX4_pathTo_87 : decode cX4_pathTo 87 = .ok (.iload 6, 2) := by decide +kernel
set_option maxRecDepth 20000 in
theorem dX4_pathTo_89 : decode cX4_pathTo 89 = .ok (.invokevirtual 104, 3) := by decide +kernel
set_option maxRecDepth 20000 in
theorem dX4_pathTo_92 : decode cX4_pathTo 92 = .ok (.istore_n 3, 1) := by decide +kernel
set_option maxRecDepth 20000 in
theorem dX4_pathTo_93 : decode cX4_pathTo 93 = .ok (.iinc 5 1, 3) := by decide +kernel
set_option maxRecDepth 20000 in
theorem dX4_pathTo_96 : decode cX4_pathTo 96 = .ok (.goto (-88), 3) := by decide +kernel
set_option maxRecDepth 20000 in
theorem dX4_pathTo_99 : decode cX4_pathTo 99 = .ok (.return_, 1) := by decide +kernel
def f_X4_pathTo_77 (N : Nat) (c_askers : Int32) (c_places : Int32) (c_best : Nat → Int32) (c_next : Nat → Int32) (c_solvedGains : Nat → Int32) (c_ways : Nat → Int32) (k8 : (Nat → Int32) → Int32 → Int32 → Int32 → Option ((Nat → Int32))) (c_a2 : Nat → Int32) (v3 : Int32) (v4 : Int32) (v5 : Int32) (v6 : Int32) : Option ((Nat → Int32)) :=
    (wrI 8 c_a2 v5 (v6 - 1)).bind fun t1 =>
    (f_X4_childOf N c_next v3 v6).bind fun r2 =>
    k8 t1 r2 v4 (v5 + 1)
set_option maxHeartbeats 4000000 in
set_option maxRecDepth 100000 in
theorem g_X4_pathTo_77 {κ : KC} {ω : KW} {A : Nat → Prop} {ad : Nat → Nat} {u_seatBits : Int32} {u_entries : Int32} {N : Nat} {c_askers : Int32} {c_places : Int32} {c_best : Nat → Int32} {c_next : Nat → Int32} {c_solvedGains : Nat → Int32} {c_ways : Nat → Int32}  {k8 : (Nat → Int32) → Int32 → Int32 → Int32 → Option ((Nat → Int32))} {res : (Nat → Int32)} (hk8 : ∀ {c_a2 : Nat → Int32} {v3 : Int32} {v4 : Int32} {v5 : Int32}, k8 c_a2 v3 v4 v5 = some res → GG mu_X4_pathTo κ ω A (QR κ ω A ad (none) (w_X4_pathTo c_askers c_places res c_best c_next c_solvedGains c_ways u_seatBits u_entries)) ad 0 0 8 (w_X4_pathTo c_askers c_places c_a2 c_best c_next c_solvedGains c_ways u_seatBits u_entries) [some (.ref 0), none, some (.ref 1), some (.int v3), some (.int v4), some (.int v5), none, none] []) {c_a2 : Nat → Int32} {v3 : Int32} {v4 : Int32} {v5 : Int32} {v6 : Int32} (hf : f_X4_pathTo_77 N c_askers c_places c_best c_next c_solvedGains c_ways k8 c_a2 v3 v4 v5 v6 = some res) : GG mu_X4_pathTo κ ω A (QR κ ω A ad (none) (w_X4_pathTo c_askers c_places res c_best c_next c_solvedGains c_ways u_seatBits u_entries)) ad 0 0 77 (w_X4_pathTo c_askers c_places c_a2 c_best c_next c_solvedGains c_ways u_seatBits u_entries) [some (.ref 0), none, some (.ref 1), some (.int v3), some (.int v4), some (.int v5), some (.int v6), none] [] := by
  refine G_aload_n dX4_pathTo_77 rfl rfl ?_
  refine G_iload dX4_pathTo_78 rfl ?_
  refine G_iload dX4_pathTo_80 rfl ?_
  refine G_iconst 1 dX4_pathTo_82 (by decide) ?_
  refine G_isub dX4_pathTo_83 ?_
  obtain ⟨t1, ht1, hf⟩ := ob hf
  refine G_iast (w2 := (w_X4_pathTo c_askers c_places t1 c_best c_next c_solvedGains c_ways u_seatBits u_entries)) dX4_pathTo_84 rfl ht1 rfl ?_
  refine G_aload_n dX4_pathTo_85 rfl rfl ?_
  refine G_iload_n dX4_pathTo_86 rfl rfl ?_
  refine G_iload dX4_pathTo_87 rfl ?_
  obtain ⟨r2, hc3, hf⟩ := ob hf
  refine G_callV (μ2 := mu_X4_childOf) (As := [.int v3, .int v6]) (w2 := (w_X4_pathTo c_askers c_places t1 c_best c_next c_solvedGains c_ways u_seatBits u_entries)) (wc := (w_X4_childOf c_next c_askers c_places u_seatBits u_entries)) (wc2 := (w_X4_childOf c_next c_askers c_places u_seatBits u_entries)) (rest := []) (rv := [.int r2]) [0, 3] [1000, 1001, 4, 1002, 2, 5, 1003, 1004, 1005, 1006, 1007] [1, 2, 4, 5] [4, 0, 1, 5, 2, 3] (c_X4_childOf hc3) cw_X4_childOf m_X4_104 dX4_pathTo_89 rfl ⟨leb rfl, leb rfl⟩ ⟨rfl, rfl⟩ rfl ⟨_, rfl, rfl⟩ (Fit.mk rfl rfl rfl) rfl (leb rfl) (ROsub.nil rfl rfl) rfl ?_
  change GG _ _ _ _ _ _ _ _ _ (w_X4_pathTo c_askers c_places t1 c_best c_next c_solvedGains c_ways u_seatBits u_entries) [some (.ref 0), none, some (.ref 1), some (.int v3), some (.int v4), some (.int v5), some (.int v6), none] [.int r2]
  refine G_istore_n dX4_pathTo_92 rfl (ltb rfl) ?_
  change GG _ _ _ _ _ _ _ _ _ _ [some (.ref 0), none, some (.ref 1), some (.int r2), some (.int v4), some (.int v5), some (.int v6), none] _
  refine G_iinc 1 dX4_pathTo_93 (by decide) rfl (ltb rfl) ?_
  change GG _ _ _ _ _ _ _ _ _ _ [some (.ref 0), none, some (.ref 1), some (.int r2), some (.int v4), some (.int (v5 + 1)), some (.int v6), none] _
  refine G_goto 8 dX4_pathTo_96 (by decide) ?_
  refine GG.sb (lv2 := [some (.ref 0), none, some (.ref 1), some (.int r2), some (.int v4), some (.int (v5 + 1)), none, none]) ?_ (lvS_v rfl (lvS_n (lvS_v rfl (lvS_v rfl (lvS_v rfl (lvS_v rfl (lvS_n (lvS_n (lvS_e)))))))))
  exact hk8 hf
def f_X4_pathTo_37 (N : Nat) (c_askers : Int32) (c_places : Int32) (c_best : Nat → Int32) (c_next : Nat → Int32) (c_solvedGains : Nat → Int32) (c_ways : Nat → Int32) (k8 : (Nat → Int32) → Int32 → Int32 → Int32 → Option ((Nat → Int32))) : Nat → (Nat → Int32) → Int32 → Int32 → Int32 → Int32 → Int32 → Option ((Nat → Int32))
  | 0, _, _, _, _, _, _ => none
  | n + 1, c_a2, v3, v4, v5, v6, v7 =>
    (if c_places ≤ v6 then
      f_X4_pathTo_77 N c_askers c_places c_best c_next c_solvedGains c_ways k8 c_a2 v3 v4 v5 v6
    else
      (if v4 < v7 then
        f_X4_pathTo_77 N c_askers c_places c_best c_next c_solvedGains c_ways k8 c_a2 v3 v4 v5 v6
      else
        (f_X4_waysBy N c_best c_next c_solvedGains c_ways v5 v3 (v6 + 1)).bind fun r3 =>
        f_X4_pathTo_37 N c_askers c_places c_best c_next c_solvedGains c_ways k8 n c_a2 v3 (v4 - v7) v5 (v6 + 1) r3))
set_option maxHeartbeats 4000000 in
set_option maxRecDepth 100000 in
theorem g_X4_pathTo_37 {κ : KC} {ω : KW} {A : Nat → Prop} {ad : Nat → Nat} {u_seatBits : Int32} {u_entries : Int32} {N : Nat} {c_askers : Int32} {c_places : Int32} {c_best : Nat → Int32} {c_next : Nat → Int32} {c_solvedGains : Nat → Int32} {c_ways : Nat → Int32}  {k8 : (Nat → Int32) → Int32 → Int32 → Int32 → Option ((Nat → Int32))} {res : (Nat → Int32)} (hk8 : ∀ {c_a2 : Nat → Int32} {v3 : Int32} {v4 : Int32} {v5 : Int32}, k8 c_a2 v3 v4 v5 = some res → GG mu_X4_pathTo κ ω A (QR κ ω A ad (none) (w_X4_pathTo c_askers c_places res c_best c_next c_solvedGains c_ways u_seatBits u_entries)) ad 0 0 8 (w_X4_pathTo c_askers c_places c_a2 c_best c_next c_solvedGains c_ways u_seatBits u_entries) [some (.ref 0), none, some (.ref 1), some (.int v3), some (.int v4), some (.int v5), none, none] []) : ∀ (n : Nat) {c_a2 : Nat → Int32} {v3 : Int32} {v4 : Int32} {v5 : Int32} {v6 : Int32} {v7 : Int32}, f_X4_pathTo_37 N c_askers c_places c_best c_next c_solvedGains c_ways k8 n c_a2 v3 v4 v5 v6 v7 = some res → GG mu_X4_pathTo κ ω A (QR κ ω A ad (none) (w_X4_pathTo c_askers c_places res c_best c_next c_solvedGains c_ways u_seatBits u_entries)) ad 0 0 37 (w_X4_pathTo c_askers c_places c_a2 c_best c_next c_solvedGains c_ways u_seatBits u_entries) [some (.ref 0), none, some (.ref 1), some (.int v3), some (.int v4), some (.int v5), some (.int v6), some (.int v7)] [] := by
  intro n
  induction n with
  | zero => intro c_a2 v3 v4 v5 v6 v7 hf; exact ob_0 hf
  | succ n ih =>
    intro c_a2 v3 v4 v5 v6 v7 hf
    refine G_iload dX4_pathTo_37 rfl ?_
    refine G_aload_n dX4_pathTo_39 rfl rfl ?_
    refine G_get (v := .int c_places) F_X4_63 dX4_pathTo_40 rfl rfl ?_
    refine G_icmp_ge 77 dX4_pathTo_43 (by decide) (fun h1 => ?_) (fun h1 => ?_)
    · replace hf := ob_t h1 hf
      refine GG.sb (lv2 := [some (.ref 0), none, some (.ref 1), some (.int v3), some (.int v4), some (.int v5), some (.int v6), none]) ?_ (lvS_v rfl (lvS_n (lvS_v rfl (lvS_v rfl (lvS_v rfl (lvS_v rfl (lvS_v rfl (lvS_n (lvS_e)))))))))
      exact g_X4_pathTo_77 hk8 hf
    · replace hf := ob_f h1 hf
      refine G_iload dX4_pathTo_46 rfl ?_
      refine G_iload dX4_pathTo_48 rfl ?_
      refine G_icmp_lt 77 dX4_pathTo_50 (by decide) (fun h2 => ?_) (fun h2 => ?_)
      · replace hf := ob_t h2 hf
        refine GG.sb (lv2 := [some (.ref 0), none, some (.ref 1), some (.int v3), some (.int v4), some (.int v5), some (.int v6), none]) ?_ (lvS_v rfl (lvS_n (lvS_v rfl (lvS_v rfl (lvS_v rfl (lvS_v rfl (lvS_v rfl (lvS_n (lvS_e)))))))))
        exact g_X4_pathTo_77 hk8 hf
      · replace hf := ob_f h2 hf
        refine G_iload dX4_pathTo_53 rfl ?_
        refine G_iload dX4_pathTo_55 rfl ?_
        refine G_isub dX4_pathTo_57 ?_
        refine G_istore dX4_pathTo_58 (ltb rfl) ?_
        change GG _ _ _ _ _ _ _ _ _ _ [some (.ref 0), none, some (.ref 1), some (.int v3), some (.int (v4 - v7)), some (.int v5), some (.int v6), some (.int v7)] _
        refine G_iinc 1 dX4_pathTo_60 (by decide) rfl (ltb rfl) ?_
        change GG _ _ _ _ _ _ _ _ _ _ [some (.ref 0), none, some (.ref 1), some (.int v3), some (.int (v4 - v7)), some (.int v5), some (.int (v6 + 1)), some (.int v7)] _
        refine G_aload_n dX4_pathTo_63 rfl rfl ?_
        refine G_iload dX4_pathTo_64 rfl ?_
        refine G_iload_n dX4_pathTo_66 rfl rfl ?_
        refine G_iload dX4_pathTo_67 rfl ?_
        obtain ⟨r3, hc4, hf⟩ := ob hf
        refine G_callV (μ2 := mu_X4_waysBy) (As := [.int v5, .int v3, .int (v6 + 1)]) (w2 := (w_X4_pathTo c_askers c_places c_a2 c_best c_next c_solvedGains c_ways u_seatBits u_entries)) (wc := (w_X4_waysBy c_best c_next c_solvedGains c_ways c_askers c_places u_seatBits u_entries)) (wc2 := (w_X4_waysBy c_best c_next c_solvedGains c_ways c_askers c_places u_seatBits u_entries)) (rest := []) (rv := [.int r3]) [0, 2, 3, 4, 5] [1000, 1001, 1002, 1003, 1004, 1005, 1006, 1007] [1] [1, 0, 2, 3, 4, 5] (c_X4_waysBy hc4) cw_X4_waysBy m_X4_107 dX4_pathTo_69 rfl ⟨leb rfl, leb rfl⟩ ⟨rfl, rfl⟩ rfl ⟨_, rfl, rfl⟩ (Fit.mk rfl rfl rfl) rfl (leb rfl) (ROsub.nil rfl rfl) rfl ?_
        change GG _ _ _ _ _ _ _ _ _ (w_X4_pathTo c_askers c_places c_a2 c_best c_next c_solvedGains c_ways u_seatBits u_entries) [some (.ref 0), none, some (.ref 1), some (.int v3), some (.int (v4 - v7)), some (.int v5), some (.int (v6 + 1)), some (.int v7)] [.int r3]
        refine G_istore dX4_pathTo_72 (ltb rfl) ?_
        change GG _ _ _ _ _ _ _ _ _ _ [some (.ref 0), none, some (.ref 1), some (.int v3), some (.int (v4 - v7)), some (.int v5), some (.int (v6 + 1)), some (.int r3)] _
        refine G_goto 37 dX4_pathTo_74 (by decide) ?_
        exact ih hf
def f_X4_pathTo_8 (N : Nat) (c_askers : Int32) (c_places : Int32) (c_best : Nat → Int32) (c_next : Nat → Int32) (c_solvedGains : Nat → Int32) (c_ways : Nat → Int32) : Nat → (Nat → Int32) → Int32 → Int32 → Int32 → Option ((Nat → Int32))
  | 0, _, _, _, _ => none
  | n + 1, c_a2, v3, v4, v5 =>
    (if c_askers ≤ v5 then
      some c_a2
    else
      (if 8 ≤ v5 then
        some c_a2
      else
        (f_X4_waysBy N c_best c_next c_solvedGains c_ways v5 v3 0).bind fun r3 =>
        f_X4_pathTo_37 N c_askers c_places c_best c_next c_solvedGains c_ways (f_X4_pathTo_8 N c_askers c_places c_best c_next c_solvedGains c_ways n) N c_a2 v3 v4 v5 0 r3))
set_option maxHeartbeats 4000000 in
set_option maxRecDepth 100000 in
theorem g_X4_pathTo_8 {κ : KC} {ω : KW} {A : Nat → Prop} {ad : Nat → Nat} {u_seatBits : Int32} {u_entries : Int32} {N : Nat} {c_askers : Int32} {c_places : Int32} {c_best : Nat → Int32} {c_next : Nat → Int32} {c_solvedGains : Nat → Int32} {c_ways : Nat → Int32}  {res : (Nat → Int32)} : ∀ (n : Nat) {c_a2 : Nat → Int32} {v3 : Int32} {v4 : Int32} {v5 : Int32}, f_X4_pathTo_8 N c_askers c_places c_best c_next c_solvedGains c_ways n c_a2 v3 v4 v5 = some res → GG mu_X4_pathTo κ ω A (QR κ ω A ad (none) (w_X4_pathTo c_askers c_places res c_best c_next c_solvedGains c_ways u_seatBits u_entries)) ad 0 0 8 (w_X4_pathTo c_askers c_places c_a2 c_best c_next c_solvedGains c_ways u_seatBits u_entries) [some (.ref 0), none, some (.ref 1), some (.int v3), some (.int v4), some (.int v5), none, none] [] := by
  intro n
  induction n with
  | zero => intro c_a2 v3 v4 v5 hf; exact ob_0 hf
  | succ n ih =>
    intro c_a2 v3 v4 v5 hf
    refine G_iload dX4_pathTo_8 rfl ?_
    refine G_aload_n dX4_pathTo_10 rfl rfl ?_
    refine G_get (v := .int c_askers) F_X4_49 dX4_pathTo_11 rfl rfl ?_
    refine G_icmp_ge 99 dX4_pathTo_14 (by decide) (fun h1 => ?_) (fun h1 => ?_)
    · replace hf := ob_t h1 hf
      obtain rfl := os hf
      exact G_return dX4_pathTo_99 rfl
    · replace hf := ob_f h1 hf
      refine G_iload dX4_pathTo_17 rfl ?_
      refine G_aload_n dX4_pathTo_19 rfl rfl ?_
      refine G_alenI 8 dX4_pathTo_20 rfl (by decide) ?_
      refine G_icmp_ge 99 dX4_pathTo_21 (by decide) (fun h2 => ?_) (fun h2 => ?_)
      · replace hf := ob_t h2 hf
        obtain rfl := os hf
        exact G_return dX4_pathTo_99 rfl
      · replace hf := ob_f h2 hf
        refine G_iconst 0 dX4_pathTo_24 (by decide) ?_
        refine G_istore dX4_pathTo_25 (ltb rfl) ?_
        change GG _ _ _ _ _ _ _ _ _ _ [some (.ref 0), none, some (.ref 1), some (.int v3), some (.int v4), some (.int v5), some (.int 0), none] _
        refine G_aload_n dX4_pathTo_27 rfl rfl ?_
        refine G_iload dX4_pathTo_28 rfl ?_
        refine G_iload_n dX4_pathTo_30 rfl rfl ?_
        refine G_iconst 0 dX4_pathTo_31 (by decide) ?_
        obtain ⟨r3, hc4, hf⟩ := ob hf
        refine G_callV (μ2 := mu_X4_waysBy) (As := [.int v5, .int v3, .int 0]) (w2 := (w_X4_pathTo c_askers c_places c_a2 c_best c_next c_solvedGains c_ways u_seatBits u_entries)) (wc := (w_X4_waysBy c_best c_next c_solvedGains c_ways c_askers c_places u_seatBits u_entries)) (wc2 := (w_X4_waysBy c_best c_next c_solvedGains c_ways c_askers c_places u_seatBits u_entries)) (rest := []) (rv := [.int r3]) [0, 2, 3, 4, 5] [1000, 1001, 1002, 1003, 1004, 1005, 1006, 1007] [1] [1, 0, 2, 3, 4, 5] (c_X4_waysBy hc4) cw_X4_waysBy m_X4_107 dX4_pathTo_32 rfl ⟨leb rfl, leb rfl⟩ ⟨rfl, rfl⟩ rfl ⟨_, rfl, rfl⟩ (Fit.mk rfl rfl rfl) rfl (leb rfl) (ROsub.nil rfl rfl) rfl ?_
        change GG _ _ _ _ _ _ _ _ _ (w_X4_pathTo c_askers c_places c_a2 c_best c_next c_solvedGains c_ways u_seatBits u_entries) [some (.ref 0), none, some (.ref 1), some (.int v3), some (.int v4), some (.int v5), some (.int 0), none] [.int r3]
        refine G_istore dX4_pathTo_35 (ltb rfl) ?_
        change GG _ _ _ _ _ _ _ _ _ _ [some (.ref 0), none, some (.ref 1), some (.int v3), some (.int v4), some (.int v5), some (.int 0), some (.int r3)] _
        exact g_X4_pathTo_37 ih N hf
def f_X4_pathTo (N : Nat) (c_askers : Int32) (c_places : Int32) (c_best : Nat → Int32) (c_next : Nat → Int32) (c_solvedGains : Nat → Int32) (c_ways : Nat → Int32) (c_a2 : Nat → Int32) (a1 : Int32) : Option ((Nat → Int32)) :=
  f_X4_pathTo_8 N c_askers c_places c_best c_next c_solvedGains c_ways N c_a2 0 a1 0
set_option maxHeartbeats 4000000 in
set_option maxRecDepth 100000 in
theorem c_X4_pathTo {N : Nat} {c_askers : Int32} {c_places : Int32} {c_best : Nat → Int32} {c_next : Nat → Int32} {c_solvedGains : Nat → Int32} {c_ways : Nat → Int32} {c_a2 : Nat → Int32} {u_seatBits : Int32} {u_entries : Int32} {a1 : Int32} {res : (Nat → Int32)} (hf : f_X4_pathTo N c_askers c_places c_best c_next c_solvedGains c_ways c_a2 a1 = some res) : Con mu_X4_pathTo [.ref 0, .int a1, .ref 1] (w_X4_pathTo c_askers c_places c_a2 c_best c_next c_solvedGains c_ways u_seatBits u_entries) (none) (w_X4_pathTo c_askers c_places res c_best c_next c_solvedGains c_ways u_seatBits u_entries) := by
  refine Con.mk (show plainName RX4 = true by decide +kernel) (leb rfl) (fun κ ω A ad => ?_)
  change GG mu_X4_pathTo κ ω A (QR κ ω A ad (none) (w_X4_pathTo c_askers c_places res c_best c_next c_solvedGains c_ways u_seatBits u_entries)) ad 0 0 0 (w_X4_pathTo c_askers c_places c_a2 c_best c_next c_solvedGains c_ways u_seatBits u_entries) [some (.ref 0), some (.int a1), some (.ref 1), none, none, none, none, none] []
  refine G_iconst 0 dX4_pathTo_0 (by decide) ?_
  refine G_istore_n dX4_pathTo_1 rfl (ltb rfl) ?_
  change GG _ _ _ _ _ _ _ _ _ _ [some (.ref 0), some (.int a1), some (.ref 1), some (.int 0), none, none, none, none] _
  refine G_iload_n dX4_pathTo_2 rfl rfl ?_
  refine G_istore dX4_pathTo_3 (ltb rfl) ?_
  change GG _ _ _ _ _ _ _ _ _ _ [some (.ref 0), some (.int a1), some (.ref 1), some (.int 0), some (.int a1), none, none, none] _
  refine G_iconst 0 dX4_pathTo_5 (by decide) ?_
  refine G_istore dX4_pathTo_6 (ltb rfl) ?_
  change GG _ _ _ _ _ _ _ _ _ _ [some (.ref 0), some (.int a1), some (.ref 1), some (.int 0), some (.int a1), some (.int 0), none, none] _
  refine GG.sb (lv2 := [some (.ref 0), none, some (.ref 1), some (.int 0), some (.int a1), some (.int 0), none, none]) ?_ (lvS_v rfl (lvS_n (lvS_v rfl (lvS_v rfl (lvS_v rfl (lvS_v rfl (lvS_n (lvS_n (lvS_e)))))))))
  exact g_X4_pathTo_8 N hf
set_option maxRecDepth 20000 in
theorem dX4_rankOf_0 : decode cX4_rankOf 0 = .ok (.iconst 0, 1) := by decide +kernel
set_option maxRecDepth 20000 in
theorem dX4_rankOf_1 : decode cX4_rankOf 1 = .ok (.istore_n 2, 1) := by decide +kernel
set_option maxRecDepth 20000 in
theorem dX4_rankOf_2 : decode cX4_rankOf 2 = .ok (.iconst 0, 1) := by decide +kernel
set_option maxRecDepth 20000 in
theorem dX4_rankOf_3 : decode cX4_rankOf 3 = .ok (.istore_n 3, 1) := by decide +kernel
set_option maxRecDepth 20000 in
theorem dX4_rankOf_4 : decode cX4_rankOf 4 = .ok (.iconst 0, 1) := by decide +kernel
set_option maxRecDepth 20000 in
theorem dX4_rankOf_5 : decode cX4_rankOf 5 = .ok (.istore 4, 2) := by decide +kernel
set_option maxRecDepth 20000 in
theorem dX4_rankOf_7 : decode cX4_rankOf 7 = .ok (.iload 4, 2) := by decide +kernel
set_option maxRecDepth 20000 in
theorem dX4_rankOf_9 : decode cX4_rankOf 9 = .ok (.aload_n 0, 1) := by decide +kernel
set_option maxRecDepth 20000 in
theorem dX4_rankOf_10 : decode cX4_rankOf 10 = .ok (.getfield 49, 3) := by decide +kernel
set_option maxRecDepth 20000 in
theorem dX4_rankOf_13 : decode cX4_rankOf 13 = .ok (.if_icmp .ge 67, 3) := by decide +kernel
set_option maxRecDepth 20000 in
theorem dX4_rankOf_16 : decode cX4_rankOf 16 = .ok (.iload 4, 2) := by decide +kernel
set_option maxRecDepth 20000 in
theorem dX4_rankOf_18 : decode cX4_rankOf 18 = .ok (.aload_n 1, 1) := by decide +kernel
set_option maxRecDepth 20000 in
theorem dX4_rankOf_19 : decode cX4_rankOf 19 = .ok (.arraylength, 1) := by decide +kernel
set_option maxRecDepth 20000 in
theorem dX4_rankOf_20 : decode cX4_rankOf 20 = .ok (.if_icmp .ge 60, 3) := by decide +kernel
set_option maxRecDepth 20000 in
theorem dX4_rankOf_23 : decode cX4_rankOf 23 = .ok (.aload_n 1, 1) := by decide +kernel
set_option maxRecDepth 20000 in
theorem dX4_rankOf_24 : decode cX4_rankOf 24 = .ok (.iload 4, 2) := by decide +kernel
set_option maxRecDepth 20000 in
theorem dX4_rankOf_26 : decode cX4_rankOf 26 = .ok (.iaload, 1) := by decide +kernel
set_option maxRecDepth 20000 in
theorem dX4_rankOf_27 : decode cX4_rankOf 27 = .ok (.iconst 1, 1) := by decide +kernel
set_option maxRecDepth 20000 in
theorem dX4_rankOf_28 : decode cX4_rankOf 28 = .ok (.iadd, 1) := by decide +kernel
set_option maxRecDepth 20000 in
theorem dX4_rankOf_29 : decode cX4_rankOf 29 = .ok (.istore 5, 2) := by decide +kernel
set_option maxRecDepth 20000 in
theorem dX4_rankOf_31 : decode cX4_rankOf 31 = .ok (.iconst 0, 1) := by decide +kernel
set_option maxRecDepth 20000 in
theorem dX4_rankOf_32 : decode cX4_rankOf 32 = .ok (.istore 6, 2) := by decide +kernel
set_option maxRecDepth 20000 in
theorem dX4_rankOf_34 : decode cX4_rankOf 34 = .ok (.iload 6, 2) := by decide +kernel
set_option maxRecDepth 20000 in
theorem dX4_rankOf_36 : decode cX4_rankOf 36 = .ok (.iload 5, 2) := by decide +kernel
set_option maxRecDepth 20000 in
theorem dX4_rankOf_38 : decode cX4_rankOf 38 = .ok (.if_icmp .ge 28, 3) := by decide +kernel
set_option maxRecDepth 20000 in
theorem dX4_rankOf_41 : decode cX4_rankOf 41 = .ok (.iload 6, 2) := by decide +kernel
set_option maxRecDepth 20000 in
theorem dX4_rankOf_43 : decode cX4_rankOf 43 = .ok (.bipush 7, 2) := by decide +kernel
set_option maxRecDepth 20000 in
theorem dX4_rankOf_45 : decode cX4_rankOf 45 = .ok (.if_icmp .ge 21, 3) := by decide +kernel
set_option maxRecDepth 20000 in
theorem dX4_rankOf_48 : decode cX4_rankOf 48 = .ok (.iload_n 3, 1) := by decide +kernel
set_option maxRecDepth 20000 in
theorem dX4_rankOf_49 : decode cX4_rankOf 49 = .ok (.aload_n 0, 1) := by decide +kernel
set_option maxRecDepth 20000 in
theorem dX4_rankOf_50 : decode cX4_rankOf 50 = .ok (.iload 4, 2) := by decide +kernel
set_option maxRecDepth 20000 in
theorem dX4_rankOf_52 : decode cX4_rankOf 52 = .ok (.iload_n 2, 1) := by decide +kernel
set_option maxRecDepth 20000 in
theorem dX4_rankOf_53 : decode cX4_rankOf 53 = .ok (.iload 6, 2) := by decide +kernel
set_option maxRecDepth 20000 in
theorem dX4_rankOf_55 : decode cX4_rankOf 55 = .ok (.invokevirtual 107, 3) := by decide +kernel
set_option maxRecDepth 20000 in
theorem dX4_rankOf_58 : decode cX4_rankOf 58 = .ok (.iadd, 1) := by decide +kernel
set_option maxRecDepth 20000 in
theorem dX4_rankOf_59 : decode cX4_rankOf 59 = .ok (.istore_n 3, 1) := by decide +kernel
set_option maxRecDepth 20000 in
theorem dX4_rankOf_60 : decode cX4_rankOf 60 = .ok (.iinc 6 1, 3) := by decide +kernel
set_option maxRecDepth 20000 in
theorem dX4_rankOf_63 : decode cX4_rankOf 63 = .ok (.goto (-29), 3) := by decide +kernel
set_option maxRecDepth 20000 in
theorem dX4_rankOf_66 : decode cX4_rankOf 66 = .ok (.aload_n 0, 1) := by decide +kernel
set_option maxRecDepth 20000 in
theorem dX4_rankOf_67 : decode cX4_rankOf 67 = .ok (.iload_n 2, 1) := by decide +kernel
set_option maxRecDepth 20000 in
theorem dX4_rankOf_68 : decode cX4_rankOf 68 = .ok (.iload 5, 2) := by decide +kernel
set_option maxRecDepth 20000 in
theorem dX4_rankOf_70 : decode cX4_rankOf 70 = .ok (.invokevirtual 104, 3) := by decide +kernel
set_option maxRecDepth 20000 in
theorem dX4_rankOf_73 : decode cX4_rankOf 73 = .ok (.istore_n 2, 1) := by decide +kernel
set_option maxRecDepth 20000 in
theorem dX4_rankOf_74 : decode cX4_rankOf 74 = .ok (.iinc 4 1, 3) := by decide +kernel
set_option maxRecDepth 20000 in
theorem dX4_rankOf_77 : decode cX4_rankOf 77 = .ok (.goto (-70), 3) := by decide +kernel
set_option maxRecDepth 20000 in
theorem dX4_rankOf_80 : decode cX4_rankOf 80 = .ok (.iload_n 3, 1) := by decide +kernel
set_option maxRecDepth 20000 in
theorem dX4_rankOf_81 : decode cX4_rankOf 81 = .ok (.ireturn, 1) := by decide +kernel
def f_X4_rankOf_66 (N : Nat) (c_askers : Int32) (c_a1 : Nat → Int32) (c_best : Nat → Int32) (c_next : Nat → Int32) (c_solvedGains : Nat → Int32) (c_ways : Nat → Int32) (k7 : Int32 → Int32 → Int32 → Option (Int32)) (v2 : Int32) (v3 : Int32) (v4 : Int32) (v5 : Int32) : Option (Int32) :=
    (f_X4_childOf N c_next v2 v5).bind fun r1 =>
    k7 r1 v3 (v4 + 1)
set_option maxHeartbeats 4000000 in
set_option maxRecDepth 100000 in
theorem g_X4_rankOf_66 {κ : KC} {ω : KW} {A : Nat → Prop} {ad : Nat → Nat} {u_places : Int32} {u_seatBits : Int32} {u_entries : Int32} {N : Nat} {c_askers : Int32} {c_a1 : Nat → Int32} {c_best : Nat → Int32} {c_next : Nat → Int32} {c_solvedGains : Nat → Int32} {c_ways : Nat → Int32}  {k7 : Int32 → Int32 → Int32 → Option (Int32)} {res : Int32} (hk7 : ∀ {v2 : Int32} {v3 : Int32} {v4 : Int32}, k7 v2 v3 v4 = some res → GG mu_X4_rankOf κ ω A (QR κ ω A ad (some (.int res)) (w_X4_rankOf c_askers c_a1 c_best c_next c_solvedGains c_ways u_places u_seatBits u_entries)) ad 0 0 7 (w_X4_rankOf c_askers c_a1 c_best c_next c_solvedGains c_ways u_places u_seatBits u_entries) [some (.ref 0), some (.ref 1), some (.int v2), some (.int v3), some (.int v4), none, none] []) {v2 : Int32} {v3 : Int32} {v4 : Int32} {v5 : Int32} (hf : f_X4_rankOf_66 N c_askers c_a1 c_best c_next c_solvedGains c_ways k7 v2 v3 v4 v5 = some res) : GG mu_X4_rankOf κ ω A (QR κ ω A ad (some (.int res)) (w_X4_rankOf c_askers c_a1 c_best c_next c_solvedGains c_ways u_places u_seatBits u_entries)) ad 0 0 66 (w_X4_rankOf c_askers c_a1 c_best c_next c_solvedGains c_ways u_places u_seatBits u_entries) [some (.ref 0), some (.ref 1), some (.int v2), some (.int v3), some (.int v4), some (.int v5), none] [] := by
  refine G_aload_n dX4_rankOf_66 rfl rfl ?_
  refine G_iload_n dX4_rankOf_67 rfl rfl ?_
  refine G_iload dX4_rankOf_68 rfl ?_
  obtain ⟨r1, hc2, hf⟩ := ob hf
  refine G_callV (μ2 := mu_X4_childOf) (As := [.int v2, .int v5]) (w2 := (w_X4_rankOf c_askers c_a1 c_best c_next c_solvedGains c_ways u_places u_seatBits u_entries)) (wc := (w_X4_childOf c_next c_askers u_places u_seatBits u_entries)) (wc2 := (w_X4_childOf c_next c_askers u_places u_seatBits u_entries)) (rest := []) (rv := [.int r1]) [0, 3] [1000, 1001, 4, 1002, 2, 5, 1003, 1004, 1005, 1006, 1007] [1, 2, 4, 5] [4, 0, 1, 5, 2, 3] (c_X4_childOf hc2) cw_X4_childOf m_X4_104 dX4_rankOf_70 rfl ⟨leb rfl, leb rfl⟩ ⟨rfl, rfl⟩ rfl ⟨_, rfl, rfl⟩ (Fit.mk rfl rfl rfl) rfl (leb rfl) (ROsub.nil rfl rfl) rfl ?_
  change GG _ _ _ _ _ _ _ _ _ (w_X4_rankOf c_askers c_a1 c_best c_next c_solvedGains c_ways u_places u_seatBits u_entries) [some (.ref 0), some (.ref 1), some (.int v2), some (.int v3), some (.int v4), some (.int v5), none] [.int r1]
  refine G_istore_n dX4_rankOf_73 rfl (ltb rfl) ?_
  change GG _ _ _ _ _ _ _ _ _ _ [some (.ref 0), some (.ref 1), some (.int r1), some (.int v3), some (.int v4), some (.int v5), none] _
  refine G_iinc 1 dX4_rankOf_74 (by decide) rfl (ltb rfl) ?_
  change GG _ _ _ _ _ _ _ _ _ _ [some (.ref 0), some (.ref 1), some (.int r1), some (.int v3), some (.int (v4 + 1)), some (.int v5), none] _
  refine G_goto 7 dX4_rankOf_77 (by decide) ?_
  refine GG.sb (lv2 := [some (.ref 0), some (.ref 1), some (.int r1), some (.int v3), some (.int (v4 + 1)), none, none]) ?_ (lvS_v rfl (lvS_v rfl (lvS_v rfl (lvS_v rfl (lvS_v rfl (lvS_n (lvS_n (lvS_e))))))))
  exact hk7 hf
def f_X4_rankOf_34 (N : Nat) (c_askers : Int32) (c_a1 : Nat → Int32) (c_best : Nat → Int32) (c_next : Nat → Int32) (c_solvedGains : Nat → Int32) (c_ways : Nat → Int32) (k7 : Int32 → Int32 → Int32 → Option (Int32)) : Nat → Int32 → Int32 → Int32 → Int32 → Int32 → Option (Int32)
  | 0, _, _, _, _, _ => none
  | n + 1, v2, v3, v4, v5, v6 =>
    (if v5 ≤ v6 then
      f_X4_rankOf_66 N c_askers c_a1 c_best c_next c_solvedGains c_ways k7 v2 v3 v4 v5
    else
      (if 7 ≤ v6 then
        f_X4_rankOf_66 N c_askers c_a1 c_best c_next c_solvedGains c_ways k7 v2 v3 v4 v5
      else
        (f_X4_waysBy N c_best c_next c_solvedGains c_ways v4 v2 v6).bind fun r3 =>
        f_X4_rankOf_34 N c_askers c_a1 c_best c_next c_solvedGains c_ways k7 n v2 (v3 + r3) v4 v5 (v6 + 1)))
set_option maxHeartbeats 4000000 in
set_option maxRecDepth 100000 in
theorem g_X4_rankOf_34 {κ : KC} {ω : KW} {A : Nat → Prop} {ad : Nat → Nat} {u_places : Int32} {u_seatBits : Int32} {u_entries : Int32} {N : Nat} {c_askers : Int32} {c_a1 : Nat → Int32} {c_best : Nat → Int32} {c_next : Nat → Int32} {c_solvedGains : Nat → Int32} {c_ways : Nat → Int32}  {k7 : Int32 → Int32 → Int32 → Option (Int32)} {res : Int32} (hk7 : ∀ {v2 : Int32} {v3 : Int32} {v4 : Int32}, k7 v2 v3 v4 = some res → GG mu_X4_rankOf κ ω A (QR κ ω A ad (some (.int res)) (w_X4_rankOf c_askers c_a1 c_best c_next c_solvedGains c_ways u_places u_seatBits u_entries)) ad 0 0 7 (w_X4_rankOf c_askers c_a1 c_best c_next c_solvedGains c_ways u_places u_seatBits u_entries) [some (.ref 0), some (.ref 1), some (.int v2), some (.int v3), some (.int v4), none, none] []) : ∀ (n : Nat) {v2 : Int32} {v3 : Int32} {v4 : Int32} {v5 : Int32} {v6 : Int32}, f_X4_rankOf_34 N c_askers c_a1 c_best c_next c_solvedGains c_ways k7 n v2 v3 v4 v5 v6 = some res → GG mu_X4_rankOf κ ω A (QR κ ω A ad (some (.int res)) (w_X4_rankOf c_askers c_a1 c_best c_next c_solvedGains c_ways u_places u_seatBits u_entries)) ad 0 0 34 (w_X4_rankOf c_askers c_a1 c_best c_next c_solvedGains c_ways u_places u_seatBits u_entries) [some (.ref 0), some (.ref 1), some (.int v2), some (.int v3), some (.int v4), some (.int v5), some (.int v6)] [] := by
  intro n
  induction n with
  | zero => intro v2 v3 v4 v5 v6 hf; exact ob_0 hf
  | succ n ih =>
    intro v2 v3 v4 v5 v6 hf
    refine G_iload dX4_rankOf_34 rfl ?_
    refine G_iload dX4_rankOf_36 rfl ?_
    refine G_icmp_ge 66 dX4_rankOf_38 (by decide) (fun h1 => ?_) (fun h1 => ?_)
    · replace hf := ob_t h1 hf
      refine GG.sb (lv2 := [some (.ref 0), some (.ref 1), some (.int v2), some (.int v3), some (.int v4), some (.int v5), none]) ?_ (lvS_v rfl (lvS_v rfl (lvS_v rfl (lvS_v rfl (lvS_v rfl (lvS_v rfl (lvS_n (lvS_e))))))))
      exact g_X4_rankOf_66 hk7 hf
    · replace hf := ob_f h1 hf
      refine G_iload dX4_rankOf_41 rfl ?_
      refine G_bipush 7 dX4_rankOf_43 (by decide) ?_
      refine G_icmp_ge 66 dX4_rankOf_45 (by decide) (fun h2 => ?_) (fun h2 => ?_)
      · replace hf := ob_t h2 hf
        refine GG.sb (lv2 := [some (.ref 0), some (.ref 1), some (.int v2), some (.int v3), some (.int v4), some (.int v5), none]) ?_ (lvS_v rfl (lvS_v rfl (lvS_v rfl (lvS_v rfl (lvS_v rfl (lvS_v rfl (lvS_n (lvS_e))))))))
        exact g_X4_rankOf_66 hk7 hf
      · replace hf := ob_f h2 hf
        refine G_iload_n dX4_rankOf_48 rfl rfl ?_
        refine G_aload_n dX4_rankOf_49 rfl rfl ?_
        refine G_iload dX4_rankOf_50 rfl ?_
        refine G_iload_n dX4_rankOf_52 rfl rfl ?_
        refine G_iload dX4_rankOf_53 rfl ?_
        obtain ⟨r3, hc4, hf⟩ := ob hf
        refine G_callV (μ2 := mu_X4_waysBy) (As := [.int v4, .int v2, .int v6]) (w2 := (w_X4_rankOf c_askers c_a1 c_best c_next c_solvedGains c_ways u_places u_seatBits u_entries)) (wc := (w_X4_waysBy c_best c_next c_solvedGains c_ways c_askers u_places u_seatBits u_entries)) (wc2 := (w_X4_waysBy c_best c_next c_solvedGains c_ways c_askers u_places u_seatBits u_entries)) (rest := [.int v3]) (rv := [.int r3]) [0, 2, 3, 4, 5] [1000, 1001, 1002, 1003, 1004, 1005, 1006, 1007] [1] [1, 0, 2, 3, 4, 5] (c_X4_waysBy hc4) cw_X4_waysBy m_X4_107 dX4_rankOf_55 rfl ⟨leb rfl, leb rfl⟩ ⟨rfl, rfl⟩ rfl ⟨_, rfl, rfl⟩ (Fit.mk rfl rfl rfl) rfl (leb rfl) (ROsub.nil rfl rfl) rfl ?_
        change GG _ _ _ _ _ _ _ _ _ (w_X4_rankOf c_askers c_a1 c_best c_next c_solvedGains c_ways u_places u_seatBits u_entries) [some (.ref 0), some (.ref 1), some (.int v2), some (.int v3), some (.int v4), some (.int v5), some (.int v6)] [.int r3, .int v3]
        refine G_iadd dX4_rankOf_58 ?_
        refine G_istore_n dX4_rankOf_59 rfl (ltb rfl) ?_
        change GG _ _ _ _ _ _ _ _ _ _ [some (.ref 0), some (.ref 1), some (.int v2), some (.int (v3 + r3)), some (.int v4), some (.int v5), some (.int v6)] _
        refine G_iinc 1 dX4_rankOf_60 (by decide) rfl (ltb rfl) ?_
        change GG _ _ _ _ _ _ _ _ _ _ [some (.ref 0), some (.ref 1), some (.int v2), some (.int (v3 + r3)), some (.int v4), some (.int v5), some (.int (v6 + 1))] _
        refine G_goto 34 dX4_rankOf_63 (by decide) ?_
        exact ih hf
def f_X4_rankOf_7 (N : Nat) (c_askers : Int32) (c_a1 : Nat → Int32) (c_best : Nat → Int32) (c_next : Nat → Int32) (c_solvedGains : Nat → Int32) (c_ways : Nat → Int32) : Nat → Int32 → Int32 → Int32 → Option (Int32)
  | 0, _, _, _ => none
  | n + 1, v2, v3, v4 =>
    (if c_askers ≤ v4 then
      some v3
    else
      (if 8 ≤ v4 then
        some v3
      else
        (rdI 8 c_a1 v4).bind fun t3 =>
        f_X4_rankOf_34 N c_askers c_a1 c_best c_next c_solvedGains c_ways (f_X4_rankOf_7 N c_askers c_a1 c_best c_next c_solvedGains c_ways n) N v2 v3 v4 (t3 + 1) 0))
set_option maxHeartbeats 4000000 in
set_option maxRecDepth 100000 in
theorem g_X4_rankOf_7 {κ : KC} {ω : KW} {A : Nat → Prop} {ad : Nat → Nat} {u_places : Int32} {u_seatBits : Int32} {u_entries : Int32} {N : Nat} {c_askers : Int32} {c_a1 : Nat → Int32} {c_best : Nat → Int32} {c_next : Nat → Int32} {c_solvedGains : Nat → Int32} {c_ways : Nat → Int32}  {res : Int32} : ∀ (n : Nat) {v2 : Int32} {v3 : Int32} {v4 : Int32}, f_X4_rankOf_7 N c_askers c_a1 c_best c_next c_solvedGains c_ways n v2 v3 v4 = some res → GG mu_X4_rankOf κ ω A (QR κ ω A ad (some (.int res)) (w_X4_rankOf c_askers c_a1 c_best c_next c_solvedGains c_ways u_places u_seatBits u_entries)) ad 0 0 7 (w_X4_rankOf c_askers c_a1 c_best c_next c_solvedGains c_ways u_places u_seatBits u_entries) [some (.ref 0), some (.ref 1), some (.int v2), some (.int v3), some (.int v4), none, none] [] := by
  intro n
  induction n with
  | zero => intro v2 v3 v4 hf; exact ob_0 hf
  | succ n ih =>
    intro v2 v3 v4 hf
    refine G_iload dX4_rankOf_7 rfl ?_
    refine G_aload_n dX4_rankOf_9 rfl rfl ?_
    refine G_get (v := .int c_askers) F_X4_49 dX4_rankOf_10 rfl rfl ?_
    refine G_icmp_ge 80 dX4_rankOf_13 (by decide) (fun h1 => ?_) (fun h1 => ?_)
    · replace hf := ob_t h1 hf
      refine G_iload_n dX4_rankOf_80 rfl rfl ?_
      obtain rfl := os hf
      exact G_ireturn dX4_rankOf_81 rfl
    · replace hf := ob_f h1 hf
      refine G_iload dX4_rankOf_16 rfl ?_
      refine G_aload_n dX4_rankOf_18 rfl rfl ?_
      refine G_alenI 8 dX4_rankOf_19 rfl (by decide) ?_
      refine G_icmp_ge 80 dX4_rankOf_20 (by decide) (fun h2 => ?_) (fun h2 => ?_)
      · replace hf := ob_t h2 hf
        refine G_iload_n dX4_rankOf_80 rfl rfl ?_
        obtain rfl := os hf
        exact G_ireturn dX4_rankOf_81 rfl
      · replace hf := ob_f h2 hf
        refine G_aload_n dX4_rankOf_23 rfl rfl ?_
        refine G_iload dX4_rankOf_24 rfl ?_
        obtain ⟨t3, ht3, hf⟩ := ob hf
        refine G_iald dX4_rankOf_26 rfl ht3 ?_
        refine G_iconst 1 dX4_rankOf_27 (by decide) ?_
        refine G_iadd dX4_rankOf_28 ?_
        refine G_istore dX4_rankOf_29 (ltb rfl) ?_
        change GG _ _ _ _ _ _ _ _ _ _ [some (.ref 0), some (.ref 1), some (.int v2), some (.int v3), some (.int v4), some (.int (t3 + 1)), none] _
        refine G_iconst 0 dX4_rankOf_31 (by decide) ?_
        refine G_istore dX4_rankOf_32 (ltb rfl) ?_
        change GG _ _ _ _ _ _ _ _ _ _ [some (.ref 0), some (.ref 1), some (.int v2), some (.int v3), some (.int v4), some (.int (t3 + 1)), some (.int 0)] _
        exact g_X4_rankOf_34 ih N hf
def f_X4_rankOf (N : Nat) (c_askers : Int32) (c_a1 : Nat → Int32) (c_best : Nat → Int32) (c_next : Nat → Int32) (c_solvedGains : Nat → Int32) (c_ways : Nat → Int32)  : Option (Int32) :=
  f_X4_rankOf_7 N c_askers c_a1 c_best c_next c_solvedGains c_ways N 0 0 0
set_option maxHeartbeats 4000000 in
set_option maxRecDepth 100000 in
theorem c_X4_rankOf {N : Nat} {c_askers : Int32} {c_a1 : Nat → Int32} {c_best : Nat → Int32} {c_next : Nat → Int32} {c_solvedGains : Nat → Int32} {c_ways : Nat → Int32}  {u_places : Int32} {u_seatBits : Int32} {u_entries : Int32}  {res : Int32} (hf : f_X4_rankOf N c_askers c_a1 c_best c_next c_solvedGains c_ways = some res) : Con mu_X4_rankOf [.ref 0, .ref 1] (w_X4_rankOf c_askers c_a1 c_best c_next c_solvedGains c_ways u_places u_seatBits u_entries) (some (.int res)) (w_X4_rankOf c_askers c_a1 c_best c_next c_solvedGains c_ways u_places u_seatBits u_entries) := by
  refine Con.mk (show plainName RX4 = true by decide +kernel) (leb rfl) (fun κ ω A ad => ?_)
  change GG mu_X4_rankOf κ ω A (QR κ ω A ad (some (.int res)) (w_X4_rankOf c_askers c_a1 c_best c_next c_solvedGains c_ways u_places u_seatBits u_entries)) ad 0 0 0 (w_X4_rankOf c_askers c_a1 c_best c_next c_solvedGains c_ways u_places u_seatBits u_entries) [some (.ref 0), some (.ref 1), none, none, none, none, none] []
  refine G_iconst 0 dX4_rankOf_0 (by decide) ?_
  refine G_istore_n dX4_rankOf_1 rfl (ltb rfl) ?_
  change GG _ _ _ _ _ _ _ _ _ _ [some (.ref 0), some (.ref 1), some (.int 0), none, none, none, none] _
  refine G_iconst 0 dX4_rankOf_2 (by decide) ?_
  refine G_istore_n dX4_rankOf_3 rfl (ltb rfl) ?_
  change GG _ _ _ _ _ _ _ _ _ _ [some (.ref 0), some (.ref 1), some (.int 0), some (.int 0), none, none, none] _
  refine G_iconst 0 dX4_rankOf_4 (by decide) ?_
  refine G_istore dX4_rankOf_5 (ltb rfl) ?_
  change GG _ _ _ _ _ _ _ _ _ _ [some (.ref 0), some (.ref 1), some (.int 0), some (.int 0), some (.int 0), none, none] _
  exact g_X4_rankOf_7 N hf
