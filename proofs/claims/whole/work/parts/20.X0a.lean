/-! printed by wip/gen: WishPlaces$Board, part 0 -/
def ro_FIRSTS_GAINS : Nat → Int32 := fun j => ([0, 1048576, 65536, 4096, 256, 16, 1, 0] : List Int32).getD j 0
def ro_FAIREST_GAINS : Nat → Int32 := fun j => ([0, (-1), (-16), (-256), (-4096), (-65536), (-1048576), (-16777216)] : List Int32).getD j 0
def ro_MOST_GAINS : Nat → Int32 := fun j => ([0, (-1), (-2), (-3), (-4), (-5), (-6), (-1000)] : List Int32).getD j 0
def ro_ORDERS : Nat → Int32 := fun j => ([1, 1, 2, 6, 24, 120, 720, 5040, 40320] : List Int32).getD j 0
set_option maxRecDepth 100000 in
theorem uX0 : ∀ w ∈ u_ws RX0 TX0 7, w ∈ ALLW := by decide +kernel
theorem F_X0_9 : FLD RX0 9 0 3 (.array .int) true := ⟨RX0, TX0, 7, tyX0, rfl, by decide, uX0, all_of 41 (by decide +kernel) (by decide +kernel), tyX0_ok, rfl, nmX0, rfl⟩
theorem F_X0_15 : FLD RX0 15 0 4 (.array .int) true := ⟨RX0, TX0, 7, tyX0, rfl, by decide, uX0, all_of 45 (by decide +kernel) (by decide +kernel), tyX0_ok, rfl, nmX0, rfl⟩
theorem F_X0_18 : FLD RX0 18 0 5 (.array .int) true := ⟨RX0, TX0, 7, tyX0, rfl, by decide, uX0, all_of 46 (by decide +kernel) (by decide +kernel), tyX0_ok, rfl, nmX0, rfl⟩
theorem F_X0_21 : FLD RX0 21 0 6 (.array .int) true := ⟨RX0, TX0, 7, tyX0, rfl, by decide, uX0, all_of 47 (by decide +kernel) (by decide +kernel), tyX0_ok, rfl, nmX0, rfl⟩
theorem F_X0_24 : FLD RX0 24 0 0 .int false := ⟨RX0, TX0, 7, tyX0, rfl, by decide, uX0, all_of 26 (by decide +kernel) (by decide +kernel), tyX0_ok, rfl, nmX0, rfl⟩
theorem F_X0_28 : FLD RX0 28 0 1 .int false := ⟨RX0, TX0, 7, tyX0, rfl, by decide, uX0, all_of 35 (by decide +kernel) (by decide +kernel), tyX0_ok, rfl, nmX0, rfl⟩
theorem F_X0_31 : FLD RX0 31 0 2 .int false := ⟨RX0, TX0, 7, tyX0, rfl, by decide, uX0, all_of 40 (by decide +kernel) (by decide +kernel), tyX0_ok, rfl, nmX0, rfl⟩
theorem m_X0_34 : Cond.methodLink RX0 34 yX0_sortLikes ∈ ALLW := all_of 336 (by decide +kernel) (by decide +kernel)
theorem m_X0_38 : Cond.methodLink RX0 38 yX0_takeBack ∈ ALLW := all_of 340 (by decide +kernel) (by decide +kernel)
theorem m_X0_42 : Cond.methodLink RX0 42 yX0_worthOf ∈ ALLW := all_of 368 (by decide +kernel) (by decide +kernel)
theorem m_X0_46 : Cond.methodLink RX0 46 yX0_toldOf ∈ ALLW := all_of 316 (by decide +kernel) (by decide +kernel)
theorem m_X0_51 : Cond.methodLink RX0 51 yX0_wishOf ∈ ALLW := all_of 763 (by decide +kernel) (by decide +kernel)
theorem k_X0_49 : Cond.constantLong RX0 49 31 ∈ ALLW := all_of 762 (by decide +kernel) (by decide +kernel)
abbrev mu_X0_isAsker : KM := (yX0_isAsker, cX0_isAsker, 2, (some .boolean), { frames := 0, cells := 0, slots := 0, locals := 0 }, [], [])
def w_X0_isAsker (c_askers : Int32) (u_places : Int32) (u_age : Int32) : List mE := [.inr (0, [.int c_askers, .int u_places, .int u_age, .ref 1000, .ref 1001, .ref 1002, .ref 1003])]
theorem cw_X0_isAsker : CWv mu_X0_isAsker 1 := ⟨⟨all_of 331 (by decide +kernel) (by decide +kernel), all_of 2 (by decide +kernel) (by decide +kernel), by decide +kernel, by decide +kernel, by decide +kernel⟩, all_of 329 (by decide +kernel) (by decide +kernel), all_of 330 (by decide +kernel) (by decide +kernel)⟩
abbrev mu_X0_isPlace : KM := (yX0_isPlace, cX0_isPlace, 2, (some .boolean), { frames := 0, cells := 0, slots := 0, locals := 0 }, [], [])
def w_X0_isPlace (c_places : Int32) (u_askers : Int32) (u_age : Int32) : List mE := [.inr (0, [.int u_askers, .int c_places, .int u_age, .ref 1000, .ref 1001, .ref 1002, .ref 1003])]
theorem cw_X0_isPlace : CWv mu_X0_isPlace 1 := ⟨⟨all_of 311 (by decide +kernel) (by decide +kernel), all_of 2 (by decide +kernel) (by decide +kernel), by decide +kernel, by decide +kernel, by decide +kernel⟩, all_of 309 (by decide +kernel) (by decide +kernel), all_of 310 (by decide +kernel) (by decide +kernel)⟩
abbrev mu_X0_addAsker : KM := (yX0_addAsker, cX0_addAsker, 1, (some .int), { frames := 0, cells := 0, slots := 0, locals := 0 }, [], [])
def w_X0_addAsker (c_askers : Int32) (c_age : Int32) (u_places : Int32) : List mE := [.inr (0, [.int c_askers, .int u_places, .int c_age, .ref 1000, .ref 1001, .ref 1002, .ref 1003])]
theorem cw_X0_addAsker : CWv mu_X0_addAsker 0 := ⟨⟨all_of 292 (by decide +kernel) (by decide +kernel), all_of 2 (by decide +kernel) (by decide +kernel), by decide +kernel, by decide +kernel, by decide +kernel⟩, all_of 290 (by decide +kernel) (by decide +kernel), all_of 291 (by decide +kernel) (by decide +kernel)⟩
abbrev mu_X0_addPlace : KM := (yX0_addPlace, cX0_addPlace, 2, (some .int), { frames := 0, cells := 0, slots := 0, locals := 0 }, [], [])
def w_X0_addPlace (c_places : Int32) (c_age : Int32) (c_seats : Nat → Int32) (u_askers : Int32) : List mE := [.inr (0, [.int u_askers, .int c_places, .int c_age, .ref 1, .ref 1000, .ref 1001, .ref 1002]), .inl (0, 6, .inl c_seats)]
theorem cw_X0_addPlace : CWv mu_X0_addPlace 1 := ⟨⟨all_of 303 (by decide +kernel) (by decide +kernel), all_of 2 (by decide +kernel) (by decide +kernel), by decide +kernel, by decide +kernel, by decide +kernel⟩, all_of 301 (by decide +kernel) (by decide +kernel), all_of 302 (by decide +kernel) (by decide +kernel)⟩
abbrev mu_X0_setSeats : KM := (yX0_setSeats, cX0_setSeats, 4, (some .int), { frames := 0, cells := 0, slots := 0, locals := 0 }, [], [])
def w_X0_setSeats (c_age : Int32) (c_seats : Nat → Int32) (u_askers : Int32) (u_places : Int32) : List mE := [.inr (0, [.int u_askers, .int u_places, .int c_age, .ref 1, .ref 1000, .ref 1001, .ref 1002]), .inl (0, 6, .inl c_seats)]
theorem cw_X0_setSeats : CWv mu_X0_setSeats 2 := ⟨⟨all_of 323 (by decide +kernel) (by decide +kernel), all_of 2 (by decide +kernel) (by decide +kernel), by decide +kernel, by decide +kernel, by decide +kernel⟩, all_of 321 (by decide +kernel) (by decide +kernel), all_of 322 (by decide +kernel) (by decide +kernel)⟩
abbrev mu_X0_sortLikes : KM := (yX0_sortLikes, cX0_sortLikes, 5, none, { frames := 0, cells := 0, slots := 0, locals := 0 }, [], [])
def w_X0_sortLikes (c_places : Int32) (c_likes : Nat → Int32) (c_wishes : Nat → Int32) (u_askers : Int32) (u_age : Int32) : List mE := [.inr (0, [.int u_askers, .int c_places, .int u_age, .ref 1000, .ref 2, .ref 1, .ref 1001]), .inl (0, 48, .inl c_likes), .inl (0, 48, .inl c_wishes)]
theorem cw_X0_sortLikes : CWv mu_X0_sortLikes 1 := ⟨⟨all_of 339 (by decide +kernel) (by decide +kernel), all_of 2 (by decide +kernel) (by decide +kernel), by decide +kernel, by decide +kernel, by decide +kernel⟩, all_of 338 (by decide +kernel) (by decide +kernel), all_pr 0 (by decide +kernel) (by decide +kernel)⟩
abbrev mu_X0_takeBack : KM := (yX0_takeBack, cX0_takeBack, 4, none, { frames := 0, cells := 0, slots := 0, locals := 0 }, [], [])
def w_X0_takeBack (c_told : Nat → Int32) (u_askers : Int32) (u_places : Int32) (u_age : Int32) : List mE := [.inr (0, [.int u_askers, .int u_places, .int u_age, .ref 1000, .ref 1001, .ref 1002, .ref 1]), .inl (0, 32, .inl c_told)]
theorem cw_X0_takeBack : CWv mu_X0_takeBack 2 := ⟨⟨all_of 343 (by decide +kernel) (by decide +kernel), all_of 2 (by decide +kernel) (by decide +kernel), by decide +kernel, by decide +kernel, by decide +kernel⟩, all_of 342 (by decide +kernel) (by decide +kernel), all_pr 1 (by decide +kernel) (by decide +kernel)⟩
abbrev mu_X0_setWish : KM := (yX0_setWish, cX0_setWish, 5, (some .int), { frames := 1, cells := 0, slots := 0, locals := 24 }, [], [])
def w_X0_setWish (c_places : Int32) (c_age : Int32) (c_likes : Nat → Int32) (c_told : Nat → Int32) (c_wishes : Nat → Int32) (u_askers : Int32) : List mE := [.inr (0, [.int u_askers, .int c_places, .int c_age, .ref 1000, .ref 3, .ref 1, .ref 2]), .inl (0, 48, .inl c_likes), .inl (0, 32, .inl c_told), .inl (0, 48, .inl c_wishes)]
theorem cw_X0_setWish : CWv mu_X0_setWish 3 := ⟨⟨all_of 335 (by decide +kernel) (by decide +kernel), all_of 2 (by decide +kernel) (by decide +kernel), by decide +kernel, by decide +kernel, by decide +kernel⟩, all_of 333 (by decide +kernel) (by decide +kernel), all_of 334 (by decide +kernel) (by decide +kernel)⟩
abbrev mu_X0_likeAt : KM := (yX0_likeAt, cX0_likeAt, 3, (some .int), { frames := 0, cells := 0, slots := 0, locals := 0 }, [], [])
def w_X0_likeAt (c_likes : Nat → Int32) (u_askers : Int32) (u_places : Int32) (u_age : Int32) : List mE := [.inr (0, [.int u_askers, .int u_places, .int u_age, .ref 1000, .ref 1001, .ref 1, .ref 1002]), .inl (0, 48, .inl c_likes)]
theorem cw_X0_likeAt : CWv mu_X0_likeAt 2 := ⟨⟨all_of 694 (by decide +kernel) (by decide +kernel), all_of 2 (by decide +kernel) (by decide +kernel), by decide +kernel, by decide +kernel, by decide +kernel⟩, all_of 692 (by decide +kernel) (by decide +kernel), all_of 693 (by decide +kernel) (by decide +kernel)⟩
abbrev mu_X0_wishOf : KM := (yX0_wishOf, cX0_wishOf, 3, (some .int), { frames := 0, cells := 0, slots := 0, locals := 0 }, [], [])
def w_X0_wishOf (c_wishes : Nat → Int32) (u_askers : Int32) (u_places : Int32) (u_age : Int32) : List mE := [.inr (0, [.int u_askers, .int u_places, .int u_age, .ref 1000, .ref 1, .ref 1001, .ref 1002]), .inl (0, 48, .inl c_wishes)]
theorem cw_X0_wishOf : CWv mu_X0_wishOf 2 := ⟨⟨all_of 453 (by decide +kernel) (by decide +kernel), all_of 2 (by decide +kernel) (by decide +kernel), by decide +kernel, by decide +kernel, by decide +kernel⟩, all_of 451 (by decide +kernel) (by decide +kernel), all_of 452 (by decide +kernel) (by decide +kernel)⟩
abbrev mu_X0_worthOf : KM := (yX0_worthOf, cX0_worthOf, 4, (some .int), { frames := 0, cells := 0, slots := 0, locals := 0 }, [], [])
def w_X0_worthOf (c_wishes : Nat → Int32) (u_askers : Int32) (u_places : Int32) (u_age : Int32) : List mE := [.inr (0, [.int u_askers, .int u_places, .int u_age, .ref 1000, .ref 1, .ref 1001, .ref 1002]), .inl (0, 48, .inl c_wishes)]
theorem cw_X0_worthOf : CWv mu_X0_worthOf 2 := ⟨⟨all_of 355 (by decide +kernel) (by decide +kernel), all_of 2 (by decide +kernel) (by decide +kernel), by decide +kernel, by decide +kernel, by decide +kernel⟩, all_of 353 (by decide +kernel) (by decide +kernel), all_of 354 (by decide +kernel) (by decide +kernel)⟩
abbrev mu_X0_firstWorth : KM := (yX0_firstWorth, cX0_firstWorth, 2, (some .int), { frames := 1, cells := 0, slots := 0, locals := 23 }, [], [])
def w_X0_firstWorth (c_likes : Nat → Int32) (c_wishes : Nat → Int32) (u_askers : Int32) (u_places : Int32) (u_age : Int32) : List mE := [.inr (0, [.int u_askers, .int u_places, .int u_age, .ref 1000, .ref 2, .ref 1, .ref 1001]), .inl (0, 48, .inl c_likes), .inl (0, 48, .inl c_wishes)]
theorem cw_X0_firstWorth : CWv mu_X0_firstWorth 1 := ⟨⟨all_of 572 (by decide +kernel) (by decide +kernel), all_of 2 (by decide +kernel) (by decide +kernel), by decide +kernel, by decide +kernel, by decide +kernel⟩, all_of 570 (by decide +kernel) (by decide +kernel), all_of 571 (by decide +kernel) (by decide +kernel)⟩
abbrev mu_X0_isOpen : KM := (yX0_isOpen, cX0_isOpen, 3, (some .boolean), { frames := 1, cells := 0, slots := 0, locals := 23 }, [], [])
def w_X0_isOpen (c_wishes : Nat → Int32) (u_askers : Int32) (u_places : Int32) (u_age : Int32) : List mE := [.inr (0, [.int u_askers, .int u_places, .int u_age, .ref 1000, .ref 1, .ref 1001, .ref 1002]), .inl (0, 48, .inl c_wishes)]
theorem cw_X0_isOpen : CWv mu_X0_isOpen 2 := ⟨⟨all_of 367 (by decide +kernel) (by decide +kernel), all_of 2 (by decide +kernel) (by decide +kernel), by decide +kernel, by decide +kernel, by decide +kernel⟩, all_of 365 (by decide +kernel) (by decide +kernel), all_of 366 (by decide +kernel) (by decide +kernel)⟩
abbrev mu_X0_toldOf : KM := (yX0_toldOf, cX0_toldOf, 3, (some .int), { frames := 0, cells := 0, slots := 0, locals := 0 }, [], [])
def w_X0_toldOf (c_told : Nat → Int32) (u_askers : Int32) (u_places : Int32) (u_age : Int32) : List mE := [.inr (0, [.int u_askers, .int u_places, .int u_age, .ref 1000, .ref 1001, .ref 1002, .ref 1]), .inl (0, 32, .inl c_told)]
theorem cw_X0_toldOf : CWv mu_X0_toldOf 2 := ⟨⟨all_of 319 (by decide +kernel) (by decide +kernel), all_of 2 (by decide +kernel) (by decide +kernel), by decide +kernel, by decide +kernel, by decide +kernel⟩, all_of 317 (by decide +kernel) (by decide +kernel), all_of 318 (by decide +kernel) (by decide +kernel)⟩
abbrev mu_X0_toldWorth : KM := (yX0_toldWorth, cX0_toldWorth, 3, (some .int), { frames := 1, cells := 0, slots := 0, locals := 23 }, [], [])
def w_X0_toldWorth (c_told : Nat → Int32) (c_wishes : Nat → Int32) (u_askers : Int32) (u_places : Int32) (u_age : Int32) : List mE := [.inr (0, [.int u_askers, .int u_places, .int u_age, .ref 1000, .ref 2, .ref 1001, .ref 1]), .inl (0, 32, .inl c_told), .inl (0, 48, .inl c_wishes)]
theorem cw_X0_toldWorth : CWv mu_X0_toldWorth 2 := ⟨⟨all_of 483 (by decide +kernel) (by decide +kernel), all_of 2 (by decide +kernel) (by decide +kernel), by decide +kernel, by decide +kernel, by decide +kernel⟩, all_of 481 (by decide +kernel) (by decide +kernel), all_of 482 (by decide +kernel) (by decide +kernel)⟩
abbrev mu_X0_tell : KM := (yX0_tell, cX0_tell, 4, none, { frames := 0, cells := 0, slots := 0, locals := 0 }, [], [])
def w_X0_tell (c_told : Nat → Int32) (u_askers : Int32) (u_places : Int32) (u_age : Int32) : List mE := [.inr (0, [.int u_askers, .int u_places, .int u_age, .ref 1000, .ref 1001, .ref 1002, .ref 1]), .inl (0, 32, .inl c_told)]
theorem cw_X0_tell : CWv mu_X0_tell 3 := ⟨⟨all_of 457 (by decide +kernel) (by decide +kernel), all_of 2 (by decide +kernel) (by decide +kernel), by decide +kernel, by decide +kernel, by decide +kernel⟩, all_of 455 (by decide +kernel) (by decide +kernel), all_of 456 (by decide +kernel) (by decide +kernel)⟩
abbrev mu_X0_holders : KM := (yX0_holders, cX0_holders, 6, (some .int), { frames := 1, cells := 0, slots := 0, locals := 22 }, [], [])
def w_X0_holders (c_askers : Int32) (c_told : Nat → Int32) (u_places : Int32) (u_age : Int32) : List mE := [.inr (0, [.int c_askers, .int u_places, .int u_age, .ref 1000, .ref 1001, .ref 1002, .ref 1]), .inl (0, 32, .inl c_told)]
theorem cw_X0_holders : CWv mu_X0_holders 3 := ⟨⟨all_of 315 (by decide +kernel) (by decide +kernel), all_of 2 (by decide +kernel) (by decide +kernel), by decide +kernel, by decide +kernel, by decide +kernel⟩, all_of 313 (by decide +kernel) (by decide +kernel), all_of 314 (by decide +kernel) (by decide +kernel)⟩
abbrev mu_X0_seatBits : KM := (yX0_seatBits, cX0_seatBits, 3, (some .int), { frames := 0, cells := 0, slots := 0, locals := 0 }, [], [])
def w_X0_seatBits (c_places : Int32) (c_seats : Nat → Int32) (u_askers : Int32) (u_age : Int32) : List mE := [.inr (0, [.int u_askers, .int c_places, .int u_age, .ref 1, .ref 1000, .ref 1001, .ref 1002]), .inl (0, 6, .inl c_seats)]
theorem cw_X0_seatBits : CWv mu_X0_seatBits 0 := ⟨⟨all_of 385 (by decide +kernel) (by decide +kernel), all_of 2 (by decide +kernel) (by decide +kernel), by decide +kernel, by decide +kernel, by decide +kernel⟩, all_of 383 (by decide +kernel) (by decide +kernel), all_of 384 (by decide +kernel) (by decide +kernel)⟩
abbrev mu_X0_allSeats : KM := (yX0_allSeats, cX0_allSeats, 3, (some .int), { frames := 0, cells := 0, slots := 0, locals := 0 }, [], [])
def w_X0_allSeats (c_places : Int32) (c_seats : Nat → Int32) (u_askers : Int32) (u_age : Int32) : List mE := [.inr (0, [.int u_askers, .int c_places, .int u_age, .ref 1, .ref 1000, .ref 1001, .ref 1002]), .inl (0, 6, .inl c_seats)]
theorem cw_X0_allSeats : CWv mu_X0_allSeats 0 := ⟨⟨all_of 746 (by decide +kernel) (by decide +kernel), all_of 2 (by decide +kernel) (by decide +kernel), by decide +kernel, by decide +kernel, by decide +kernel⟩, all_of 744 (by decide +kernel) (by decide +kernel), all_of 745 (by decide +kernel) (by decide +kernel)⟩
abbrev mu_X0_allWishes : KM := (yX0_allWishes, cX0_allWishes, 3, (some .int), { frames := 0, cells := 0, slots := 0, locals := 0 }, [], [])
def w_X0_allWishes (c_wishes : Nat → Int32) (u_askers : Int32) (u_places : Int32) (u_age : Int32) : List mE := [.inr (0, [.int u_askers, .int u_places, .int u_age, .ref 1000, .ref 1, .ref 1001, .ref 1002]), .inl (0, 48, .inl c_wishes)]
theorem cw_X0_allWishes : CWv mu_X0_allWishes 0 := ⟨⟨all_of 750 (by decide +kernel) (by decide +kernel), all_of 2 (by decide +kernel) (by decide +kernel), by decide +kernel, by decide +kernel, by decide +kernel⟩, all_of 748 (by decide +kernel) (by decide +kernel), all_of 749 (by decide +kernel) (by decide +kernel)⟩
abbrev mu_X0_digestOn : KM := (yX0_digestOn, cX0_digestOn, 7, (some .long), { frames := 1, cells := 0, slots := 0, locals := 22 }, [], [])
def w_X0_digestOn (c_askers : Int32) (c_places : Int32) (c_seats : Nat → Int32) (c_told : Nat → Int32) (c_wishes : Nat → Int32) (u_age : Int32) : List mE := [.inr (0, [.int c_askers, .int c_places, .int u_age, .ref 1, .ref 3, .ref 1000, .ref 2]), .inl (0, 6, .inl c_seats), .inl (0, 32, .inl c_told), .inl (0, 48, .inl c_wishes)]
theorem cw_X0_digestOn : CWv mu_X0_digestOn 1 := ⟨⟨all_of 761 (by decide +kernel) (by decide +kernel), all_of 2 (by decide +kernel) (by decide +kernel), by decide +kernel, by decide +kernel, by decide +kernel⟩, all_of 759 (by decide +kernel) (by decide +kernel), all_of 760 (by decide +kernel) (by decide +kernel)⟩
set_option maxRecDepth 20000 in
theorem dX0_isAsker_0 : decode cX0_isAsker 0 = .ok (.iload_n 1, 1) := by decide +kernel
set_option maxRecDepth 20000 in
theorem dX0_isAsker_1 : decode cX0_isAsker 1 = .ok (.ifCond .lt 21, 3) := by decide +kernel
set_option maxRecDepth 20000 in
theorem dX0_isAsker_4 : decode cX0_isAsker 4 = .ok (.iload_n 1, 1) := by decide +kernel
set_option maxRecDepth 20000 in
theorem dX0_isAsker_5 : decode cX0_isAsker 5 = .ok (.aload_n 0, 1) := by decide +kernel
set_option maxRecDepth 20000 in
theorem dX0_isAsker_6 : decode cX0_isAsker 6 = .ok (.getfield 24, 3) := by decide +kernel
set_option maxRecDepth 20000 in
theorem dX0_isAsker_9 : decode cX0_isAsker 9 = .ok (.if_icmp .ge 13, 3) := by decide +kernel
set_option maxRecDepth 20000 in
theorem dX0_isAsker_12 : decode cX0_isAsker 12 = .ok (.iload_n 1, 1) := by decide +kernel
set_option maxRecDepth 20000 in
theorem dX0_isAsker_13 : decode cX0_isAsker 13 = .ok (.bipush 8, 2) := by decide +kernel
set_option maxRecDepth 20000 in
theorem dX0_isAsker_15 : decode cX0_isAsker 15 = .ok (.if_icmp .ge 7, 3) := by decide +kernel
set_option maxRecDepth 20000 in
theorem dX0_isAsker_18 : decode cX0_isAsker 18 = .ok (.iconst 1, 1) := by decide +kernel
set_option maxRecDepth 20000 in
theorem dX0_isAsker_19 : decode cX0_isAsker 19 = .ok (.goto 4, 3) := by decide +kernel
set_option maxRecDepth 20000 in
theorem dX0_isAsker_22 : decode cX0_isAsker 22 = .ok (.iconst 0, 1) := by decide +kernel
set_option maxRecDepth 20000 in
theorem dX0_isAsker_23 : decode cX0_isAsker 23 = .ok (.ireturn, 1) := by decide +kernel
def f_X0_isAsker (N : Nat) (c_askers : Int32) (a1 : Int32) : Option (Int32) :=
  (if a1 < 0 then
    some 0
  else
    (if c_askers ≤ a1 then
      some 0
    else
      (if 8 ≤ a1 then
        some 0
      else
        some 1)))
set_option maxHeartbeats 4000000 in
set_option maxRecDepth 100000 in
theorem c_X0_isAsker {N : Nat} {c_askers : Int32}  {u_places : Int32} {u_age : Int32} {a1 : Int32} {res : Int32} (hf : f_X0_isAsker N c_askers a1 = some res) : Con mu_X0_isAsker [.ref 0, .int a1] (w_X0_isAsker c_askers u_places u_age) (some (.int res)) (w_X0_isAsker c_askers u_places u_age) := by
  refine Con.mk (show plainName RX0 = true by decide +kernel) (leb rfl) (fun κ ω A ad => ?_)
  change GG mu_X0_isAsker κ ω A (QR κ ω A ad (some (.int res)) (w_X0_isAsker c_askers u_places u_age)) ad 0 0 0 (w_X0_isAsker c_askers u_places u_age) [some (.ref 0), some (.int a1)] []
  refine G_iload_n dX0_isAsker_0 rfl rfl ?_
  refine G_if_lt 22 dX0_isAsker_1 (by decide) (fun h1 => ?_) (fun h1 => ?_)
  · replace hf := ob_t h1 hf
    refine G_iconst 0 dX0_isAsker_22 (by decide) ?_
    obtain rfl := os hf
    exact G_zreturn dX0_isAsker_23 rfl z_0
  · replace hf := ob_f h1 hf
    refine G_iload_n dX0_isAsker_4 rfl rfl ?_
    refine G_aload_n dX0_isAsker_5 rfl rfl ?_
    refine G_get (v := .int c_askers) F_X0_24 dX0_isAsker_6 rfl rfl ?_
    refine G_icmp_ge 22 dX0_isAsker_9 (by decide) (fun h2 => ?_) (fun h2 => ?_)
    · replace hf := ob_t h2 hf
      refine G_iconst 0 dX0_isAsker_22 (by decide) ?_
      obtain rfl := os hf
      exact G_zreturn dX0_isAsker_23 rfl z_0
    · replace hf := ob_f h2 hf
      refine G_iload_n dX0_isAsker_12 rfl rfl ?_
      refine G_bipush 8 dX0_isAsker_13 (by decide) ?_
      refine G_icmp_ge 22 dX0_isAsker_15 (by decide) (fun h3 => ?_) (fun h3 => ?_)
      · replace hf := ob_t h3 hf
        refine G_iconst 0 dX0_isAsker_22 (by decide) ?_
        obtain rfl := os hf
        exact G_zreturn dX0_isAsker_23 rfl z_0
      · replace hf := ob_f h3 hf
        refine G_iconst 1 dX0_isAsker_18 (by decide) ?_
        refine G_goto 23 dX0_isAsker_19 (by decide) ?_
        obtain rfl := os hf
        exact G_zreturn dX0_isAsker_23 rfl z_1
set_option maxRecDepth 20000 in
theorem dX0_isPlace_0 : decode cX0_isPlace 0 = .ok (.iload_n 1, 1) := by decide +kernel
set_option maxRecDepth 20000 in
theorem dX0_isPlace_1 : decode cX0_isPlace 1 = .ok (.ifCond .lt 21, 3) := by decide +kernel
set_option maxRecDepth 20000 in
theorem dX0_isPlace_4 : decode cX0_isPlace 4 = .ok (.iload_n 1, 1) := by decide +kernel
set_option maxRecDepth 20000 in
theorem dX0_isPlace_5 : decode cX0_isPlace 5 = .ok (.aload_n 0, 1) := by decide +kernel
set_option maxRecDepth 20000 in
theorem dX0_isPlace_6 : decode cX0_isPlace 6 = .ok (.getfield 28, 3) := by decide +kernel
set_option maxRecDepth 20000 in
theorem dX0_isPlace_9 : decode cX0_isPlace 9 = .ok (.if_icmp .ge 13, 3) := by decide +kernel
set_option maxRecDepth 20000 in
theorem dX0_isPlace_12 : decode cX0_isPlace 12 = .ok (.iload_n 1, 1) := by decide +kernel
set_option maxRecDepth 20000 in
theorem dX0_isPlace_13 : decode cX0_isPlace 13 = .ok (.bipush 6, 2) := by decide +kernel
set_option maxRecDepth 20000 in
theorem dX0_isPlace_15 : decode cX0_isPlace 15 = .ok (.if_icmp .ge 7, 3) := by decide +kernel
set_option maxRecDepth 20000 in
theorem dX0_isPlace_18 : decode cX0_isPlace 18 = .ok (.iconst 1, 1) := by decide +kernel
set_option maxRecDepth 20000 in
theorem dX0_isPlace_19 : decode cX0_isPlace 19 = .ok (.goto 4, 3) := by decide +kernel
set_option maxRecDepth 20000 in
theorem dX0_isPlace_22 : decode cX0_isPlace 22 = .ok (.iconst 0, 1) := by decide +kernel
set_option maxRecDepth 20000 in
theorem dX0_isPlace_23 : decode cX0_isPlace 23 = .ok (.ireturn, 1) := by decide +kernel
def f_X0_isPlace (N : Nat) (c_places : Int32) (a1 : Int32) : Option (Int32) :=
  (if a1 < 0 then
    some 0
  else
    (if c_places ≤ a1 then
      some 0
    else
      (if 6 ≤ a1 then
        some 0
      else
        some 1)))
set_option maxHeartbeats 4000000 in
set_option maxRecDepth 100000 in
theorem c_X0_isPlace {N : Nat} {c_places : Int32}  {u_askers : Int32} {u_age : Int32} {a1 : Int32} {res : Int32} (hf : f_X0_isPlace N c_places a1 = some res) : Con mu_X0_isPlace [.ref 0, .int a1] (w_X0_isPlace c_places u_askers u_age) (some (.int res)) (w_X0_isPlace c_places u_askers u_age) := by
  refine Con.mk (show plainName RX0 = true by decide +kernel) (leb rfl) (fun κ ω A ad => ?_)
  change GG mu_X0_isPlace κ ω A (QR κ ω A ad (some (.int res)) (w_X0_isPlace c_places u_askers u_age)) ad 0 0 0 (w_X0_isPlace c_places u_askers u_age) [some (.ref 0), some (.int a1)] []
  refine G_iload_n dX0_isPlace_0 rfl rfl ?_
  refine G_if_lt 22 dX0_isPlace_1 (by decide) (fun h1 => ?_) (fun h1 => ?_)
  · replace hf := ob_t h1 hf
    refine G_iconst 0 dX0_isPlace_22 (by decide) ?_
    obtain rfl := os hf
    exact G_zreturn dX0_isPlace_23 rfl z_0
  · replace hf := ob_f h1 hf
    refine G_iload_n dX0_isPlace_4 rfl rfl ?_
    refine G_aload_n dX0_isPlace_5 rfl rfl ?_
    refine G_get (v := .int c_places) F_X0_28 dX0_isPlace_6 rfl rfl ?_
    refine G_icmp_ge 22 dX0_isPlace_9 (by decide) (fun h2 => ?_) (fun h2 => ?_)
    · replace hf := ob_t h2 hf
      refine G_iconst 0 dX0_isPlace_22 (by decide) ?_
      obtain rfl := os hf
      exact G_zreturn dX0_isPlace_23 rfl z_0
    · replace hf := ob_f h2 hf
      refine G_iload_n dX0_isPlace_12 rfl rfl ?_
      refine G_bipush 6 dX0_isPlace_13 (by decide) ?_
      refine G_icmp_ge 22 dX0_isPlace_15 (by decide) (fun h3 => ?_) (fun h3 => ?_)
      · replace hf := ob_t h3 hf
        refine G_iconst 0 dX0_isPlace_22 (by decide) ?_
        obtain rfl := os hf
        exact G_zreturn dX0_isPlace_23 rfl z_0
      · replace hf := ob_f h3 hf
        refine G_iconst 1 dX0_isPlace_18 (by decide) ?_
        refine G_goto 23 dX0_isPlace_19 (by decide) ?_
        obtain rfl := os hf
        exact G_zreturn dX0_isPlace_23 rfl z_1
set_option maxRecDepth 20000 in
theorem dX0_addAsker_0 : decode cX0_addAsker 0 = .ok (.aload_n 0, 1) := by decide +kernel
set_option maxRecDepth 20000 in
theorem dX0_addAsker_1 : decode cX0_addAsker 1 = .ok (.dup, 1) := by decide +kernel
set_option maxRecDepth 20000 in
theorem dX0_addAsker_2 : decode cX0_addAsker 2 = .ok (.getfield 31, 3) := by decide +kernel
set_option maxRecDepth 20000 in
theorem dX0_addAsker_5 : decode cX0_addAsker 5 = .ok (.iconst 1, 1) := by decide +kernel
set_option maxRecDepth 20000 in
theorem dX0_addAsker_6 : decode cX0_addAsker 6 = .ok (.iadd, 1) := by decide +kernel
set_option maxRecDepth 20000 in
theorem dX0_addAsker_7 : decode cX0_addAsker 7 = .ok (.putfield 31, 3) := by decide +kernel
set_option maxRecDepth 20000 in
theorem dX0_addAsker_10 : decode cX0_addAsker 10 = .ok (.aload_n 0, 1) := by decide +kernel
set_option maxRecDepth 20000 in
theorem dX0_addAsker_11 : decode cX0_addAsker 11 = .ok (.dup, 1) := by decide +kernel
set_option maxRecDepth 20000 in
theorem dX0_addAsker_12 : decode cX0_addAsker 12 = .ok (.getfield 24, 3) := by decide +kernel
set_option maxRecDepth 20000 in
theorem dX0_addAsker_15 : decode cX0_addAsker 15 = .ok (.iconst 1, 1) := by decide +kernel
set_option maxRecDepth 20000 in
theorem dX0_addAsker_16 : decode cX0_addAsker 16 = .ok (.iadd, 1) := by decide +kernel
set_option maxRecDepth 20000 in
theorem dX0_addAsker_17 : decode cX0_addAsker 17 = .ok (.putfield 24, 3) := by decide +kernel
set_option maxRecDepth 20000 in
theorem dX0_addAsker_20 : decode cX0_addAsker 20 = .ok (.aload_n 0, 1) := by decide +kernel
set_option maxRecDepth 20000 in
theorem dX0_addAsker_21 : decode cX0_addAsker 21 = .ok (.getfield 24, 3) := by decide +kernel
set_option maxRecDepth 20000 in
theorem dX0_addAsker_24 : decode cX0_addAsker 24 = .ok (.iconst 1, 1) := by decide +kernel
set_option maxRecDepth 20000 in
theorem dX0_addAsker_25 : decode cX0_addAsker 25 = .ok (.isub, 1) := by decide +kernel
set_option maxRecDepth 20000 in
theorem dX0_addAsker_26 : decode cX0_addAsker 26 = .ok (.ireturn, 1) := by decide +kernel
def f_X0_addAsker (N : Nat) (c_askers : Int32) (c_age : Int32)  : Option (Int32 × Int32 × Int32) :=
  some ((c_askers + 1) - 1, c_askers + 1, c_age + 1)
set_option maxHeartbeats 4000000 in
set_option maxRecDepth 100000 in
theorem c_X0_addAsker {N : Nat}  {c_askers : Int32} {c_age : Int32} {u_places : Int32}  {res : Int32 × Int32 × Int32} (hf : f_X0_addAsker N c_askers c_age = some res) : Con mu_X0_addAsker [.ref 0] (w_X0_addAsker c_askers c_age u_places) (some (.int res.1)) (w_X0_addAsker res.2.1 res.2.2 u_places) := by
  refine Con.mk (show plainName RX0 = true by decide +kernel) (leb rfl) (fun κ ω A ad => ?_)
  change GG mu_X0_addAsker κ ω A (QR κ ω A ad (some (.int res.1)) (w_X0_addAsker res.2.1 res.2.2 u_places)) ad 0 0 0 (w_X0_addAsker c_askers c_age u_places) [some (.ref 0)] []
  refine G_aload_n dX0_addAsker_0 rfl rfl ?_
  refine G_dup dX0_addAsker_1 rfl ?_
  refine G_get (v := .int c_age) F_X0_31 dX0_addAsker_2 rfl rfl ?_
  refine G_iconst 1 dX0_addAsker_5 (by decide) ?_
  refine G_iadd dX0_addAsker_6 ?_
  refine G_put (w2 := (w_X0_addAsker c_askers (c_age + 1) u_places)) F_X0_31 dX0_addAsker_7 rfl rfl rfl (ltb rfl) rfl ?_
  refine G_aload_n dX0_addAsker_10 rfl rfl ?_
  refine G_dup dX0_addAsker_11 rfl ?_
  refine G_get (v := .int c_askers) F_X0_24 dX0_addAsker_12 rfl rfl ?_
  refine G_iconst 1 dX0_addAsker_15 (by decide) ?_
  refine G_iadd dX0_addAsker_16 ?_
  refine G_put (w2 := (w_X0_addAsker (c_askers + 1) (c_age + 1) u_places)) F_X0_24 dX0_addAsker_17 rfl rfl rfl (ltb rfl) rfl ?_
  refine G_aload_n dX0_addAsker_20 rfl rfl ?_
  refine G_get (v := .int (c_askers + 1)) F_X0_24 dX0_addAsker_21 rfl rfl ?_
  refine G_iconst 1 dX0_addAsker_24 (by decide) ?_
  refine G_isub dX0_addAsker_25 ?_
  obtain rfl := os hf
  exact G_ireturn dX0_addAsker_26 rfl
set_option maxRecDepth 20000 in
theorem dX0_addPlace_0 : decode cX0_addPlace 0 = .ok (.aload_n 0, 1) := by decide +kernel
set_option maxRecDepth 20000 in
theorem dX0_addPlace_1 : decode cX0_addPlace 1 = .ok (.dup, 1) := by decide +kernel
set_option maxRecDepth 20000 in
theorem dX0_addPlace_2 : decode cX0_addPlace 2 = .ok (.getfield 31, 3) := by decide +kernel
set_option maxRecDepth 20000 in
theorem dX0_addPlace_5 : decode cX0_addPlace 5 = .ok (.iconst 1, 1) := by decide +kernel
set_option maxRecDepth 20000 in
theorem dX0_addPlace_6 : decode cX0_addPlace 6 = .ok (.iadd, 1) := by decide +kernel
set_option maxRecDepth 20000 in
theorem dX0_addPlace_7 : decode cX0_addPlace 7 = .ok (.putfield 31, 3) := by decide +kernel
set_option maxRecDepth 20000 in
theorem dX0_addPlace_10 : decode cX0_addPlace 10 = .ok (.aload_n 0, 1) := by decide +kernel
set_option maxRecDepth 20000 in
theorem dX0_addPlace_11 : decode cX0_addPlace 11 = .ok (.getfield 9, 3) := by decide +kernel
set_option maxRecDepth 20000 in
theorem dX0_addPlace_14 : decode cX0_addPlace 14 = .ok (.aload_n 0, 1) := by decide +kernel
set_option maxRecDepth 20000 in
theorem dX0_addPlace_15 : decode cX0_addPlace 15 = .ok (.getfield 28, 3) := by decide +kernel
set_option maxRecDepth 20000 in
theorem dX0_addPlace_18 : decode cX0_addPlace 18 = .ok (.iload_n 1, 1) := by decide +kernel
set_option maxRecDepth 20000 in
theorem dX0_addPlace_19 : decode cX0_addPlace 19 = .ok (.iastore, 1) := by decide +kernel
set_option maxRecDepth 20000 in
theorem dX0_addPlace_20 : decode cX0_addPlace 20 = .ok (.aload_n 0, 1) := by decide +kernel
set_option maxRecDepth 20000 in
theorem dX0_addPlace_21 : decode cX0_addPlace 21 = .ok (.dup, 1) := by decide +kernel
set_option maxRecDepth 20000 in
theorem dX0_addPlace_22 : decode cX0_addPlace 22 = .ok (.getfield 28, 3) := by decide +kernel
set_option maxRecDepth 20000 in
theorem dX0_addPlace_25 : decode cX0_addPlace 25 = .ok (.iconst 1, 1) := by decide +kernel
set_option maxRecDepth 20000 in
theorem dX0_addPlace_26 : decode cX0_addPlace 26 = .ok (.iadd, 1) := by decide +kernel
set_option maxRecDepth 20000 in
theorem dX0_addPlace_27 : decode cX0_addPlace 27 = .ok (.putfield 28, 3) := by decide +kernel
set_option maxRecDepth 20000 in
theorem dX0_addPlace_30 : decode cX0_addPlace 30 = .ok (.aload_n 0, 1) := by decide +kernel
set_option maxRecDepth 20000 in
theorem dX0_addPlace_31 : decode cX0_addPlace 31 = .ok (.getfield 28, 3) := by decide +kernel
set_option maxRecDepth 20000 in
theorem dX0_addPlace_34 : decode cX0_addPlace 34 = .ok (.iconst 1, 1) := by decide +kernel
set_option maxRecDepth 20000 in
theorem dX0_addPlace_35 : decode cX0_addPlace 35 = .ok (.isub, 1) := by decide +kernel
set_option maxRecDepth 20000 in
theorem dX0_addPlace_36 : decode cX0_addPlace 36 = .ok (.ireturn, 1) := by decide +kernel
def f_X0_addPlace (N : Nat) (c_places : Int32) (c_age : Int32) (c_seats : Nat → Int32) (a1 : Int32) : Option (Int32 × Int32 × Int32 × (Nat → Int32)) :=
  (wrI 6 c_seats c_places a1).bind fun t1 =>
  some ((c_places + 1) - 1, c_places + 1, c_age + 1, t1)
set_option maxHeartbeats 4000000 in
set_option maxRecDepth 100000 in
theorem c_X0_addPlace {N : Nat}  {c_places : Int32} {c_age : Int32} {c_seats : Nat → Int32} {u_askers : Int32} {a1 : Int32} {res : Int32 × Int32 × Int32 × (Nat → Int32)} (hf : f_X0_addPlace N c_places c_age c_seats a1 = some res) : Con mu_X0_addPlace [.ref 0, .int a1] (w_X0_addPlace c_places c_age c_seats u_askers) (some (.int res.1)) (w_X0_addPlace res.2.1 res.2.2.1 res.2.2.2 u_askers) := by
  refine Con.mk (show plainName RX0 = true by decide +kernel) (leb rfl) (fun κ ω A ad => ?_)
  change GG mu_X0_addPlace κ ω A (QR κ ω A ad (some (.int res.1)) (w_X0_addPlace res.2.1 res.2.2.1 res.2.2.2 u_askers)) ad 0 0 0 (w_X0_addPlace c_places c_age c_seats u_askers) [some (.ref 0), some (.int a1)] []
  refine G_aload_n dX0_addPlace_0 rfl rfl ?_
  refine G_dup dX0_addPlace_1 rfl ?_
  refine G_get (v := .int c_age) F_X0_31 dX0_addPlace_2 rfl rfl ?_
  refine G_iconst 1 dX0_addPlace_5 (by decide) ?_
  refine G_iadd dX0_addPlace_6 ?_
  refine G_put (w2 := (w_X0_addPlace c_places (c_age + 1) c_seats u_askers)) F_X0_31 dX0_addPlace_7 rfl rfl rfl (ltb rfl) rfl ?_
  refine G_aload_n dX0_addPlace_10 rfl rfl ?_
  refine G_get (v := .ref 1) F_X0_9 dX0_addPlace_11 rfl rfl ?_
  refine G_aload_n dX0_addPlace_14 rfl rfl ?_
  refine G_get (v := .int c_places) F_X0_28 dX0_addPlace_15 rfl rfl ?_
  refine G_iload_n dX0_addPlace_18 rfl rfl ?_
  obtain ⟨t1, ht1, hf⟩ := ob hf
  refine G_iast (w2 := (w_X0_addPlace c_places (c_age + 1) t1 u_askers)) dX0_addPlace_19 rfl ht1 rfl ?_
  refine G_aload_n dX0_addPlace_20 rfl rfl ?_
  refine G_dup dX0_addPlace_21 rfl ?_
  refine G_get (v := .int c_places) F_X0_28 dX0_addPlace_22 rfl rfl ?_
  refine G_iconst 1 dX0_addPlace_25 (by decide) ?_
  refine G_iadd dX0_addPlace_26 ?_
  refine G_put (w2 := (w_X0_addPlace (c_places + 1) (c_age + 1) t1 u_askers)) F_X0_28 dX0_addPlace_27 rfl rfl rfl (ltb rfl) rfl ?_
  refine G_aload_n dX0_addPlace_30 rfl rfl ?_
  refine G_get (v := .int (c_places + 1)) F_X0_28 dX0_addPlace_31 rfl rfl ?_
  refine G_iconst 1 dX0_addPlace_34 (by decide) ?_
  refine G_isub dX0_addPlace_35 ?_
  obtain rfl := os hf
  exact G_ireturn dX0_addPlace_36 rfl
set_option maxRecDepth 20000 in
theorem dX0_setSeats_0 : decode cX0_setSeats 0 = .ok (.aload_n 0, 1) := by decide +kernel
set_option maxRecDepth 20000 in
theorem dX0_setSeats_1 : decode cX0_setSeats 1 = .ok (.getfield 9, 3) := by decide +kernel
set_option maxRecDepth 20000 in
theorem dX0_setSeats_4 : decode cX0_setSeats 4 = .ok (.iload_n 1, 1) := by decide +kernel
set_option maxRecDepth 20000 in
theorem dX0_setSeats_5 : decode cX0_setSeats 5 = .ok (.iaload, 1) := by decide +kernel
set_option maxRecDepth 20000 in
theorem dX0_setSeats_6 : decode cX0_setSeats 6 = .ok (.istore_n 3, 1) := by decide +kernel
set_option maxRecDepth 20000 in
theorem dX0_setSeats_7 : decode cX0_setSeats 7 = .ok (.aload_n 0, 1) := by decide +kernel
set_option maxRecDepth 20000 in
theorem dX0_setSeats_8 : decode cX0_setSeats 8 = .ok (.dup, 1) := by decide +kernel
set_option maxRecDepth 20000 in
theorem dX0_setSeats_9 : decode cX0_setSeats 9 = .ok (.getfield 31, 3) := by decide +kernel
set_option maxRecDepth 20000 in
theorem dX0_setSeats_12 : decode cX0_setSeats 12 = .ok (.iconst 1, 1) := by decide +kernel
set_option maxRecDepth 20000 in
theorem dX0_setSeats_13 : decode cX0_setSeats 13 = .ok (.iadd, 1) := by decide +kernel
set_option maxRecDepth 20000 in
theorem dX0_setSeats_14 : decode cX0_setSeats 14 = .ok (.putfield 31, 3) := by decide +kernel
set_option maxRecDepth 20000 in
theorem dX0_setSeats_17 : decode cX0_setSeats 17 = .ok (.aload_n 0, 1) := by decide +kernel
set_option maxRecDepth 20000 in
theorem dX0_setSeats_18 : decode cX0_setSeats 18 = .ok (.getfield 9, 3) := by decide +kernel
set_option maxRecDepth 20000 in
theorem dX0_setSeats_21 : decode cX0_setSeats 21 = .ok (.iload_n 1, 1) := by decide +kernel
set_option maxRecDepth 20000 in
theorem dX0_setSeats_22 : decode cX0_setSeats 22 = .ok (.iload_n 2, 1) := by decide +kernel
set_option maxRecDepth 20000 in
theorem dX0_setSeats_23 : decode cX0_setSeats 23 = .ok (.iastore, 1) := by decide +kernel
set_option maxRecDepth 20000 in
theorem dX0_setSeats_24 : decode cX0_setSeats 24 = .ok (.iload_n 3, 1) := by decide +kernel
set_option maxRecDepth 20000 in
theorem dX0_setSeats_25 : decode cX0_setSeats 25 = .ok (.ireturn, 1) := by decide +kernel
def f_X0_setSeats (N : Nat) (c_age : Int32) (c_seats : Nat → Int32) (a1 : Int32) (a2 : Int32) : Option (Int32 × Int32 × (Nat → Int32)) :=
  (rdI 6 c_seats a1).bind fun t1 =>
  (wrI 6 c_seats a1 a2).bind fun t2 =>
  some (t1, c_age + 1, t2)
set_option maxHeartbeats 4000000 in
set_option maxRecDepth 100000 in
theorem c_X0_setSeats {N : Nat}  {c_age : Int32} {c_seats : Nat → Int32} {u_askers : Int32} {u_places : Int32} {a1 : Int32} {a2 : Int32} {res : Int32 × Int32 × (Nat → Int32)} (hf : f_X0_setSeats N c_age c_seats a1 a2 = some res) : Con mu_X0_setSeats [.ref 0, .int a1, .int a2] (w_X0_setSeats c_age c_seats u_askers u_places) (some (.int res.1)) (w_X0_setSeats res.2.1 res.2.2 u_askers u_places) := by
  refine Con.mk (show plainName RX0 = true by decide +kernel) (leb rfl) (fun κ ω A ad => ?_)
  change GG mu_X0_setSeats κ ω A (QR κ ω A ad (some (.int res.1)) (w_X0_setSeats res.2.1 res.2.2 u_askers u_places)) ad 0 0 0 (w_X0_setSeats c_age c_seats u_askers u_places) [some (.ref 0), some (.int a1), some (.int a2), none] []
  refine G_aload_n dX0_setSeats_0 rfl rfl ?_
  refine G_get (v := .ref 1) F_X0_9 dX0_setSeats_1 rfl rfl ?_
  refine G_iload_n dX0_setSeats_4 rfl rfl ?_
  obtain ⟨t1, ht1, hf⟩ := ob hf
  refine G_iald dX0_setSeats_5 rfl ht1 ?_
  refine G_istore_n dX0_setSeats_6 rfl (ltb rfl) ?_
  change GG _ _ _ _ _ _ _ _ _ _ [some (.ref 0), some (.int a1), some (.int a2), some (.int t1)] _
  refine G_aload_n dX0_setSeats_7 rfl rfl ?_
  refine G_dup dX0_setSeats_8 rfl ?_
  refine G_get (v := .int c_age) F_X0_31 dX0_setSeats_9 rfl rfl ?_
  refine G_iconst 1 dX0_setSeats_12 (by decide) ?_
  refine G_iadd dX0_setSeats_13 ?_
  refine G_put (w2 := (w_X0_setSeats (c_age + 1) c_seats u_askers u_places)) F_X0_31 dX0_setSeats_14 rfl rfl rfl (ltb rfl) rfl ?_
  refine G_aload_n dX0_setSeats_17 rfl rfl ?_
  refine G_get (v := .ref 1) F_X0_9 dX0_setSeats_18 rfl rfl ?_
  refine G_iload_n dX0_setSeats_21 rfl rfl ?_
  refine G_iload_n dX0_setSeats_22 rfl rfl ?_
  obtain ⟨t2, ht2, hf⟩ := ob hf
  refine G_iast (w2 := (w_X0_setSeats (c_age + 1) t2 u_askers u_places)) dX0_setSeats_23 rfl ht2 rfl ?_
  refine G_iload_n dX0_setSeats_24 rfl rfl ?_
  obtain rfl := os hf
  exact G_ireturn dX0_setSeats_25 rfl
set_option maxRecDepth 20000 in
theorem dX0_sortLikes_0 : decode cX0_sortLikes 0 = .ok (.iconst 0, 1) := by decide +kernel
set_option maxRecDepth 20000 in
theorem dX0_sortLikes_1 : decode cX0_sortLikes 1 = .ok (.istore_n 2, 1) := by decide +kernel
set_option maxRecDepth 20000 in
theorem dX0_sortLikes_2 : decode cX0_sortLikes 2 = .ok (.iconst 1, 1) := by decide +kernel
set_option maxRecDepth 20000 in
theorem dX0_sortLikes_3 : decode cX0_sortLikes 3 = .ok (.istore_n 3, 1) := by decide +kernel
set_option maxRecDepth 20000 in
theorem dX0_sortLikes_4 : decode cX0_sortLikes 4 = .ok (.iload_n 3, 1) := by decide +kernel
set_option maxRecDepth 20000 in
theorem dX0_sortLikes_5 : decode cX0_sortLikes 5 = .ok (.bipush 6, 2) := by decide +kernel
set_option maxRecDepth 20000 in
theorem dX0_sortLikes_7 : decode cX0_sortLikes 7 = .ok (.if_icmp .gt 65, 3) := by decide +kernel
set_option maxRecDepth 20000 in
theorem dX0_sortLikes_10 : decode cX0_sortLikes 10 = .ok (.iconst 0, 1) := by decide +kernel
set_option maxRecDepth 20000 in
theorem dX0_sortLikes_11 : decode cX0_sortLikes 11 = .ok (.istore 4, 2) := by decide +kernel
set_option maxRecDepth 20000 in
theorem dX0_sortLikes_13 : decode cX0_sortLikes 13 = .ok (.iload 4, 2) := by decide +kernel
set_option maxRecDepth 20000 in
theorem dX0_sortLikes_15 : decode cX0_sortLikes 15 = .ok (.aload_n 0, 1) := by decide +kernel
set_option maxRecDepth 20000 in
theorem dX0_sortLikes_16 : decode cX0_sortLikes 16 = .ok (.getfield 28, 3) := by decide +kernel
set_option maxRecDepth 20000 in
theorem dX0_sortLikes_19 : decode cX0_sortLikes 19 = .ok (.if_icmp .ge 47, 3) := by decide +kernel
set_option maxRecDepth 20000 in
theorem dX0_sortLikes_22 : decode cX0_sortLikes 22 = .ok (.aload_n 0, 1) := by decide +kernel
set_option maxRecDepth 20000 in
theorem dX0_sortLikes_23 : decode cX0_sortLikes 23 = .ok (.getfield 15, 3) := by decide +kernel
set_option maxRecDepth 20000 in
theorem dX0_sortLikes_26 : decode cX0_sortLikes 26 = .ok (.iload_n 1, 1) := by decide +kernel
set_option maxRecDepth 20000 in
theorem dX0_sortLikes_27 : decode cX0_sortLikes 27 = .ok (.bipush 6, 2) := by decide +kernel
set_option maxRecDepth 20000 in
theorem dX0_sortLikes_29 : decode cX0_sortLikes 29 = .ok (.imul, 1) := by decide +kernel
set_option maxRecDepth 20000 in
theorem dX0_sortLikes_30 : decode cX0_sortLikes 30 = .ok (.iload 4, 2) := by decide +kernel
set_option maxRecDepth 20000 in
theorem dX0_sortLikes_32 : decode cX0_sortLikes 32 = .ok (.iadd, 1) := by decide +kernel
set_option maxRecDepth 20000 in
theorem dX0_sortLikes_33 : decode cX0_sortLikes 33 = .ok (.iaload, 1) := by decide +kernel
set_option maxRecDepth 20000 in
theorem dX0_sortLikes_34 : decode cX0_sortLikes 34 = .ok (.iload_n 3, 1) := by decide +kernel
set_option maxRecDepth 20000 in
theorem dX0_sortLikes_35 : decode cX0_sortLikes 35 = .ok (.if_icmp .ne 25, 3) := by decide +kernel
set_option maxRecDepth 20000 in
theorem dX0_sortLikes_38 : decode cX0_sortLikes 38 = .ok (.iload_n 2, 1) := by decide +kernel
set_option maxRecDepth 20000 in
theorem dX0_sortLikes_39 : decode cX0_sortLikes 39 = .ok (.bipush 6, 2) := by decide +kernel
set_option maxRecDepth 20000 in
theorem dX0_sortLikes_41 : decode cX0_sortLikes 41 = .ok (.if_icmp .ge 19, 3) := by decide +kernel
set_option maxRecDepth 20000 in
theorem dX0_sortLikes_44 : decode cX0_sortLikes 44 = .ok (.aload_n 0, 1) := by decide +kernel
set_option maxRecDepth 20000 in
theorem dX0_sortLikes_45 : decode cX0_sortLikes 45 = .ok (.getfield 18, 3) := by decide +kernel
set_option maxRecDepth 20000 in
theorem dX0_sortLikes_48 : decode cX0_sortLikes 48 = .ok (.iload_n 1, 1) := by decide +kernel
set_option maxRecDepth 20000 in
theorem dX0_sortLikes_49 : decode cX0_sortLikes 49 = .ok (.bipush 6, 2) := by decide +kernel
set_option maxRecDepth 20000 in
theorem dX0_sortLikes_51 : decode cX0_sortLikes 51 = .ok (.imul, 1) := by decide +kernel
set_option maxRecDepth 20000 in
theorem dX0_sortLikes_52 : decode cX0_sortLikes 52 = .ok (.iload_n 2, 1) := by decide +kernel
set_option maxRecDepth 20000 in
theorem dX0_sortLikes_53 : decode cX0_sortLikes 53 = .ok (.iadd, 1) := by decide +kernel
set_option maxRecDepth 20000 in
theorem dX0_sortLikes_54 : decode cX0_sortLikes 54 = .ok (.iload 4, 2) := by decide +kernel
set_option maxRecDepth 20000 in
theorem dX0_sortLikes_56 : decode cX0_sortLikes 56 = .ok (.iastore, 1) := by decide +kernel
set_option maxRecDepth 20000 in
theorem dX0_sortLikes_57 : decode cX0_sortLikes 57 = .ok (.iinc 2 1, 3) := by decide +kernel
set_option maxRecDepth 20000 in
theorem dX0_sortLikes_60 : decode cX0_sortLikes 60 = .ok (.iinc 4 1, 3) := by decide +kernel
set_option maxRecDepth 20000 in
theorem dX0_sortLikes_63 : decode cX0_sortLikes 63 = .ok (.goto (-50), 3) := by decide +kernel
set_option maxRecDepth 20000 in
theorem dX0_sortLikes_66 : decode cX0_sortLikes 66 = .ok (.iinc 3 1, 3) := by decide +kernel
set_option maxRecDepth 20000 in
theorem dX0_sortLikes_69 : decode cX0_sortLikes 69 = .ok (.goto (-65), 3) := by decide +kernel
set_option maxRecDepth 20000 in
theorem dX0_sortLikes_72 : decode cX0_sortLikes 72 = .ok (.iload_n 2, 1) := by decide +kernel
set_option maxRecDepth 20000 in
theorem dX0_sortLikes_73 : decode cX0_sortLikes 73 = .ok (.istore_n 3, 1) := by decide +kernel
set_option maxRecDepth 20000 in
theorem dX0_sortLikes_74 : decode cX0_sortLikes 74 = .ok (.iload_n 3, 1) := by decide +kernel
set_option maxRecDepth 20000 in
theorem dX0_sortLikes_75 : decode cX0_sortLikes 75 = .ok (.bipush 6, 2) := by decide +kernel
set_option maxRecDepth 20000 in
theorem dX0_sortLikes_77 : decode cX0_sortLikes 77 = .ok (.if_icmp .ge 21, 3) := by decide +kernel
set_option maxRecDepth 20000 in
theorem dX0_sortLikes_80 : decode cX0_sortLikes 80 = .ok (.aload_n 0, 1) := by decide +kernel
set_option maxRecDepth 20000 in
theorem dX0_sortLikes_81 : decode cX0_sortLikes 81 = .ok (.getfield 18, 3) := by decide +kernel
set_option maxRecDepth 20000 in
theorem dX0_sortLikes_84 : decode cX0_sortLikes 84 = .ok (.iload_n 1, 1) := by decide +kernel
set_option maxRecDepth 20000 in
theorem dX0_sortLikes_85 : decode cX0_sortLikes 85 = .ok (.bipush 6, 2) := by decide +kernel
set_option maxRecDepth 20000 in
theorem dX0_sortLikes_87 : decode cX0_sortLikes 87 = .ok (.imul, 1) := by decide +kernel
set_option maxRecDepth 20000 in
theorem dX0_sortLikes_88 : decode cX0_sortLikes 88 = .ok (.iload_n 3, 1) := by decide +kernel
set_option maxRecDepth 20000 in
theorem dX0_sortLikes_89 : decode cX0_sortLikes 89 = .ok (.iadd, 1) := by decide +kernel
set_option maxRecDepth 20000 in
theorem dX0_sortLikes_90 : decode cX0_sortLikes 90 = .ok (.iconst (-1), 1) := by decide +kernel
set_option maxRecDepth 20000 in
theorem dX0_sortLikes_91 : decode cX0_sortLikes 91 = .ok (.iastore, 1) := by decide +kernel
set_option maxRecDepth 20000 in
theorem dX0_sortLikes_92 : decode cX0_sortLikes 92 = .ok (.iinc 3 1, 3) := by decide +kernel
set_option maxRecDepth 20000 in
theorem dX0_sortLikes_95 : decode cX0_sortLikes 95 = .ok (.goto (-21), 3) := by decide +kernel
set_option maxRecDepth 20000 in
theorem dX0_sortLikes_98 : decode cX0_sortLikes 98 = .ok (.return_, 1) := by decide +kernel
def f_X0_sortLikes_74 (N : Nat) (c_places : Int32) (c_wishes : Nat → Int32) : Nat → (Nat → Int32) → Int32 → Int32 → Option ((Nat → Int32))
  | 0, _, _, _ => none
  | n + 1, c_likes, v1, v3 =>
    (if 6 ≤ v3 then
      some c_likes
    else
      (wrI 48 c_likes ((v1 * 6) + v3) (-1 : Int32)).bind fun t2 =>
      f_X0_sortLikes_74 N c_places c_wishes n t2 v1 (v3 + 1))
set_option maxHeartbeats 4000000 in
set_option maxRecDepth 100000 in
theorem g_X0_sortLikes_74 {κ : KC} {ω : KW} {A : Nat → Prop} {ad : Nat → Nat} {u_askers : Int32} {u_age : Int32} {N : Nat} {c_places : Int32} {c_wishes : Nat → Int32}  {res : (Nat → Int32)} : ∀ (n : Nat) {c_likes : Nat → Int32} {v1 : Int32} {v3 : Int32}, f_X0_sortLikes_74 N c_places c_wishes n c_likes v1 v3 = some res → GG mu_X0_sortLikes κ ω A (QR κ ω A ad (none) (w_X0_sortLikes c_places res c_wishes u_askers u_age)) ad 0 0 74 (w_X0_sortLikes c_places c_likes c_wishes u_askers u_age) [some (.ref 0), some (.int v1), none, some (.int v3), none] [] := by
  intro n
  induction n with
  | zero => intro c_likes v1 v3 hf; exact ob_0 hf
  | succ n ih =>
    intro c_likes v1 v3 hf
    refine G_iload_n dX0_sortLikes_74 rfl rfl ?_
    refine G_bipush 6 dX0_sortLikes_75 (by decide) ?_
    refine G_icmp_ge 98 dX0_sortLikes_77 (by decide) (fun h1 => ?_) (fun h1 => ?_)
    · replace hf := ob_t h1 hf
      obtain rfl := os hf
      exact G_return dX0_sortLikes_98 rfl
    · replace hf := ob_f h1 hf
      refine G_aload_n dX0_sortLikes_80 rfl rfl ?_
      refine G_get (v := .ref 1) F_X0_18 dX0_sortLikes_81 rfl rfl ?_
      refine G_iload_n dX0_sortLikes_84 rfl rfl ?_
      refine G_bipush 6 dX0_sortLikes_85 (by decide) ?_
      refine G_imul dX0_sortLikes_87 ?_
      refine G_iload_n dX0_sortLikes_88 rfl rfl ?_
      refine G_iadd dX0_sortLikes_89 ?_
      refine G_iconst (-1 : Int32) dX0_sortLikes_90 (by decide) ?_
      obtain ⟨t2, ht2, hf⟩ := ob hf
      refine G_iast (w2 := (w_X0_sortLikes c_places t2 c_wishes u_askers u_age)) dX0_sortLikes_91 rfl ht2 rfl ?_
      refine G_iinc 1 dX0_sortLikes_92 (by decide) rfl (ltb rfl) ?_
      change GG _ _ _ _ _ _ _ _ _ _ [some (.ref 0), some (.int v1), none, some (.int (v3 + 1)), none] _
      refine G_goto 74 dX0_sortLikes_95 (by decide) ?_
      exact ih hf
def f_X0_sortLikes_13 (N : Nat) (c_places : Int32) (c_wishes : Nat → Int32) (k4 : (Nat → Int32) → Int32 → Int32 → Int32 → Option ((Nat → Int32))) : Nat → (Nat → Int32) → Int32 → Int32 → Int32 → Int32 → Option ((Nat → Int32))
  | 0, _, _, _, _, _ => none
  | n + 1, c_likes, v1, v2, v3, v4 =>
    (if c_places ≤ v4 then
      k4 c_likes v1 v2 (v3 + 1)
    else
      (rdI 48 c_wishes ((v1 * 6) + v4)).bind fun t2 =>
      (if t2 = v3 then
        (if 6 ≤ v2 then
          f_X0_sortLikes_13 N c_places c_wishes k4 n c_likes v1 v2 v3 (v4 + 1)
        else
          (wrI 48 c_likes ((v1 * 6) + v2) v4).bind fun t5 =>
          f_X0_sortLikes_13 N c_places c_wishes k4 n t5 v1 (v2 + 1) v3 (v4 + 1))
      else
        f_X0_sortLikes_13 N c_places c_wishes k4 n c_likes v1 v2 v3 (v4 + 1)))
set_option maxHeartbeats 4000000 in
set_option maxRecDepth 100000 in
theorem g_X0_sortLikes_13 {κ : KC} {ω : KW} {A : Nat → Prop} {ad : Nat → Nat} {u_askers : Int32} {u_age : Int32} {N : Nat} {c_places : Int32} {c_wishes : Nat → Int32}  {k4 : (Nat → Int32) → Int32 → Int32 → Int32 → Option ((Nat → Int32))} {res : (Nat → Int32)} (hk4 : ∀ {c_likes : Nat → Int32} {v1 : Int32} {v2 : Int32} {v3 : Int32}, k4 c_likes v1 v2 v3 = some res → GG mu_X0_sortLikes κ ω A (QR κ ω A ad (none) (w_X0_sortLikes c_places res c_wishes u_askers u_age)) ad 0 0 4 (w_X0_sortLikes c_places c_likes c_wishes u_askers u_age) [some (.ref 0), some (.int v1), some (.int v2), some (.int v3), none] []) : ∀ (n : Nat) {c_likes : Nat → Int32} {v1 : Int32} {v2 : Int32} {v3 : Int32} {v4 : Int32}, f_X0_sortLikes_13 N c_places c_wishes k4 n c_likes v1 v2 v3 v4 = some res → GG mu_X0_sortLikes κ ω A (QR κ ω A ad (none) (w_X0_sortLikes c_places res c_wishes u_askers u_age)) ad 0 0 13 (w_X0_sortLikes c_places c_likes c_wishes u_askers u_age) [some (.ref 0), some (.int v1), some (.int v2), some (.int v3), some (.int v4)] [] := by
  intro n
  induction n with
  | zero => intro c_likes v1 v2 v3 v4 hf; exact ob_0 hf
  | succ n ih =>
    intro c_likes v1 v2 v3 v4 hf
    refine G_iload dX0_sortLikes_13 rfl ?_
    refine G_aload_n dX0_sortLikes_15 rfl rfl ?_
    refine G_get (v := .int c_places) F_X0_28 dX0_sortLikes_16 rfl rfl ?_
    refine G_icmp_ge 66 dX0_sortLikes_19 (by decide) (fun h1 => ?_) (fun h1 => ?_)
    · replace hf := ob_t h1 hf
      refine G_iinc 1 dX0_sortLikes_66 (by decide) rfl (ltb rfl) ?_
      change GG _ _ _ _ _ _ _ _ _ _ [some (.ref 0), some (.int v1), some (.int v2), some (.int (v3 + 1)), some (.int v4)] _
      refine G_goto 4 dX0_sortLikes_69 (by decide) ?_
      refine GG.sb (lv2 := [some (.ref 0), some (.int v1), some (.int v2), some (.int (v3 + 1)), none]) ?_ (lvS_v rfl (lvS_v rfl (lvS_v rfl (lvS_v rfl (lvS_n (lvS_e))))))
      exact hk4 hf
    · replace hf := ob_f h1 hf
      refine G_aload_n dX0_sortLikes_22 rfl rfl ?_
      refine G_get (v := .ref 2) F_X0_15 dX0_sortLikes_23 rfl rfl ?_
      refine G_iload_n dX0_sortLikes_26 rfl rfl ?_
      refine G_bipush 6 dX0_sortLikes_27 (by decide) ?_
      refine G_imul dX0_sortLikes_29 ?_
      refine G_iload dX0_sortLikes_30 rfl ?_
      refine G_iadd dX0_sortLikes_32 ?_
      obtain ⟨t2, ht2, hf⟩ := ob hf
      refine G_iald dX0_sortLikes_33 rfl ht2 ?_
      refine G_iload_n dX0_sortLikes_34 rfl rfl ?_
      refine G_icmp_ne 60 dX0_sortLikes_35 (by decide) (fun h3 => ?_) (fun h3 => ?_)
      · replace hf := ob_f h3 hf
        refine G_iinc 1 dX0_sortLikes_60 (by decide) rfl (ltb rfl) ?_
        change GG _ _ _ _ _ _ _ _ _ _ [some (.ref 0), some (.int v1), some (.int v2), some (.int v3), some (.int (v4 + 1))] _
        refine G_goto 13 dX0_sortLikes_63 (by decide) ?_
        exact ih hf
      · replace hf := ob_t h3 hf
        refine G_iload_n dX0_sortLikes_38 rfl rfl ?_
        refine G_bipush 6 dX0_sortLikes_39 (by decide) ?_
        refine G_icmp_ge 60 dX0_sortLikes_41 (by decide) (fun h4 => ?_) (fun h4 => ?_)
        · replace hf := ob_t h4 hf
          refine G_iinc 1 dX0_sortLikes_60 (by decide) rfl (ltb rfl) ?_
          change GG _ _ _ _ _ _ _ _ _ _ [some (.ref 0), some (.int v1), some (.int v2), some (.int v3), some (.int (v4 + 1))] _
          refine G_goto 13 dX0_sortLikes_63 (by decide) ?_
          exact ih hf
        · replace hf := ob_f h4 hf
          refine G_aload_n dX0_sortLikes_44 rfl rfl ?_
          refine G_get (v := .ref 1) F_X0_18 dX0_sortLikes_45 rfl rfl ?_
          refine G_iload_n dX0_sortLikes_48 rfl rfl ?_
          refine G_bipush 6 dX0_sortLikes_49 (by decide) ?_
          refine G_imul dX0_sortLikes_51 ?_
          refine G_iload_n dX0_sortLikes_52 rfl rfl ?_
          refine G_iadd dX0_sortLikes_53 ?_
          refine G_iload dX0_sortLikes_54 rfl ?_
          obtain ⟨t5, ht5, hf⟩ := ob hf
          refine G_iast (w2 := (w_X0_sortLikes c_places t5 c_wishes u_askers u_age)) dX0_sortLikes_56 rfl ht5 rfl ?_
          refine G_iinc 1 dX0_sortLikes_57 (by decide) rfl (ltb rfl) ?_
          change GG _ _ _ _ _ _ _ _ _ _ [some (.ref 0), some (.int v1), some (.int (v2 + 1)), some (.int v3), some (.int v4)] _
          refine G_iinc 1 dX0_sortLikes_60 (by decide) rfl (ltb rfl) ?_
          change GG _ _ _ _ _ _ _ _ _ _ [some (.ref 0), some (.int v1), some (.int (v2 + 1)), some (.int v3), some (.int (v4 + 1))] _
          refine G_goto 13 dX0_sortLikes_63 (by decide) ?_
          exact ih hf
def f_X0_sortLikes_4 (N : Nat) (c_places : Int32) (c_wishes : Nat → Int32) : Nat → (Nat → Int32) → Int32 → Int32 → Int32 → Option ((Nat → Int32))
  | 0, _, _, _, _ => none
  | n + 1, c_likes, v1, v2, v3 =>
    (if 6 < v3 then
      f_X0_sortLikes_74 N c_places c_wishes N c_likes v1 v2
    else
      f_X0_sortLikes_13 N c_places c_wishes (f_X0_sortLikes_4 N c_places c_wishes n) N c_likes v1 v2 v3 0)
set_option maxHeartbeats 4000000 in
set_option maxRecDepth 100000 in
theorem g_X0_sortLikes_4 {κ : KC} {ω : KW} {A : Nat → Prop} {ad : Nat → Nat} {u_askers : Int32} {u_age : Int32} {N : Nat} {c_places : Int32} {c_wishes : Nat → Int32}  {res : (Nat → Int32)} : ∀ (n : Nat) {c_likes : Nat → Int32} {v1 : Int32} {v2 : Int32} {v3 : Int32}, f_X0_sortLikes_4 N c_places c_wishes n c_likes v1 v2 v3 = some res → GG mu_X0_sortLikes κ ω A (QR κ ω A ad (none) (w_X0_sortLikes c_places res c_wishes u_askers u_age)) ad 0 0 4 (w_X0_sortLikes c_places c_likes c_wishes u_askers u_age) [some (.ref 0), some (.int v1), some (.int v2), some (.int v3), none] [] := by
  intro n
  induction n with
  | zero => intro c_likes v1 v2 v3 hf; exact ob_0 hf
  | succ n ih =>
    intro c_likes v1 v2 v3 hf
    refine G_iload_n dX0_sortLikes_4 rfl rfl ?_
    refine G_bipush 6 dX0_sortLikes_5 (by decide) ?_
    refine G_icmp_gt 72 dX0_sortLikes_7 (by decide) (fun h1 => ?_) (fun h1 => ?_)
    · replace hf := ob_t h1 hf
      refine G_iload_n dX0_sortLikes_72 rfl rfl ?_
      refine G_istore_n dX0_sortLikes_73 rfl (ltb rfl) ?_
      change GG _ _ _ _ _ _ _ _ _ _ [some (.ref 0), some (.int v1), some (.int v2), some (.int v2), none] _
      refine GG.sb (lv2 := [some (.ref 0), some (.int v1), none, some (.int v2), none]) ?_ (lvS_v rfl (lvS_v rfl (lvS_n (lvS_v rfl (lvS_n (lvS_e))))))
      exact g_X0_sortLikes_74 N hf
    · replace hf := ob_f h1 hf
      refine G_iconst 0 dX0_sortLikes_10 (by decide) ?_
      refine G_istore dX0_sortLikes_11 (ltb rfl) ?_
      change GG _ _ _ _ _ _ _ _ _ _ [some (.ref 0), some (.int v1), some (.int v2), some (.int v3), some (.int 0)] _
      exact g_X0_sortLikes_13 ih N hf
def f_X0_sortLikes (N : Nat) (c_places : Int32) (c_wishes : Nat → Int32) (c_likes : Nat → Int32) (a1 : Int32) : Option ((Nat → Int32)) :=
  f_X0_sortLikes_4 N c_places c_wishes N c_likes a1 0 1
set_option maxHeartbeats 4000000 in
set_option maxRecDepth 100000 in
theorem c_X0_sortLikes {N : Nat} {c_places : Int32} {c_wishes : Nat → Int32} {c_likes : Nat → Int32} {u_askers : Int32} {u_age : Int32} {a1 : Int32} {res : (Nat → Int32)} (hf : f_X0_sortLikes N c_places c_wishes c_likes a1 = some res) : Con mu_X0_sortLikes [.ref 0, .int a1] (w_X0_sortLikes c_places c_likes c_wishes u_askers u_age) (none) (w_X0_sortLikes c_places res c_wishes u_askers u_age) := by
  refine Con.mk (show plainName RX0 = true by decide +kernel) (leb rfl) (fun κ ω A ad => ?_)
  change GG mu_X0_sortLikes κ ω A (QR κ ω A ad (none) (w_X0_sortLikes c_places res c_wishes u_askers u_age)) ad 0 0 0 (w_X0_sortLikes c_places c_likes c_wishes u_askers u_age) [some (.ref 0), some (.int a1), none, none, none] []
  refine G_iconst 0 dX0_sortLikes_0 (by decide) ?_
  refine G_istore_n dX0_sortLikes_1 rfl (ltb rfl) ?_
  change GG _ _ _ _ _ _ _ _ _ _ [some (.ref 0), some (.int a1), some (.int 0), none, none] _
  refine G_iconst 1 dX0_sortLikes_2 (by decide) ?_
  refine G_istore_n dX0_sortLikes_3 rfl (ltb rfl) ?_
  change GG _ _ _ _ _ _ _ _ _ _ [some (.ref 0), some (.int a1), some (.int 0), some (.int 1), none] _
  exact g_X0_sortLikes_4 N hf
set_option maxRecDepth 20000 in
theorem dX0_takeBack_0 : decode cX0_takeBack 0 = .ok (.iconst 0, 1) := by decide +kernel
set_option maxRecDepth 20000 in
theorem dX0_takeBack_1 : decode cX0_takeBack 1 = .ok (.istore_n 3, 1) := by decide +kernel
set_option maxRecDepth 20000 in
theorem dX0_takeBack_2 : decode cX0_takeBack 2 = .ok (.iload_n 3, 1) := by decide +kernel
set_option maxRecDepth 20000 in
theorem dX0_takeBack_3 : decode cX0_takeBack 3 = .ok (.iconst 4, 1) := by decide +kernel
set_option maxRecDepth 20000 in
theorem dX0_takeBack_4 : decode cX0_takeBack 4 = .ok (.if_icmp .ge 36, 3) := by decide +kernel
set_option maxRecDepth 20000 in
theorem dX0_takeBack_7 : decode cX0_takeBack 7 = .ok (.aload_n 0, 1) := by decide +kernel
set_option maxRecDepth 20000 in
theorem dX0_takeBack_8 : decode cX0_takeBack 8 = .ok (.getfield 21, 3) := by decide +kernel
set_option maxRecDepth 20000 in
theorem dX0_takeBack_11 : decode cX0_takeBack 11 = .ok (.iload_n 3, 1) := by decide +kernel
set_option maxRecDepth 20000 in
theorem dX0_takeBack_12 : decode cX0_takeBack 12 = .ok (.bipush 8, 2) := by decide +kernel
set_option maxRecDepth 20000 in
theorem dX0_takeBack_14 : decode cX0_takeBack 14 = .ok (.imul, 1) := by decide +kernel
set_option maxRecDepth 20000 in
theorem dX0_takeBack_15 : decode cX0_takeBack 15 = .ok (.iload_n 1, 1) := by decide +kernel
set_option maxRecDepth 20000 in
theorem dX0_takeBack_16 : decode cX0_takeBack 16 = .ok (.iadd, 1) := by decide +kernel
set_option maxRecDepth 20000 in
theorem dX0_takeBack_17 : decode cX0_takeBack 17 = .ok (.iaload, 1) := by decide +kernel
set_option maxRecDepth 20000 in
theorem dX0_takeBack_18 : decode cX0_takeBack 18 = .ok (.iload_n 2, 1) := by decide +kernel
set_option maxRecDepth 20000 in
theorem dX0_takeBack_19 : decode cX0_takeBack 19 = .ok (.if_icmp .ne 15, 3) := by decide +kernel
set_option maxRecDepth 20000 in
theorem dX0_takeBack_22 : decode cX0_takeBack 22 = .ok (.aload_n 0, 1) := by decide +kernel
set_option maxRecDepth 20000 in
theorem dX0_takeBack_23 : decode cX0_takeBack 23 = .ok (.getfield 21, 3) := by decide +kernel
set_option maxRecDepth 20000 in
theorem dX0_takeBack_26 : decode cX0_takeBack 26 = .ok (.iload_n 3, 1) := by decide +kernel
set_option maxRecDepth 20000 in
theorem dX0_takeBack_27 : decode cX0_takeBack 27 = .ok (.bipush 8, 2) := by decide +kernel
set_option maxRecDepth 20000 in
theorem dX0_takeBack_29 : decode cX0_takeBack 29 = .ok (.imul, 1) := by decide +kernel
set_option maxRecDepth 20000 in
theorem dX0_takeBack_30 : decode cX0_takeBack 30 = .ok (.iload_n 1, 1) := by decide +kernel
set_option maxRecDepth 20000 in
theorem dX0_takeBack_31 : decode cX0_takeBack 31 = .ok (.iadd, 1) := by decide +kernel
set_option maxRecDepth 20000 in
theorem dX0_takeBack_32 : decode cX0_takeBack 32 = .ok (.iconst (-1), 1) := by decide +kernel
set_option maxRecDepth 20000 in
theorem dX0_takeBack_33 : decode cX0_takeBack 33 = .ok (.iastore, 1) := by decide +kernel
set_option maxRecDepth 20000 in
theorem dX0_takeBack_34 : decode cX0_takeBack 34 = .ok (.iinc 3 1, 3) := by decide +kernel
set_option maxRecDepth 20000 in
theorem dX0_takeBack_37 : decode cX0_takeBack 37 = .ok (.goto (-35), 3) := by decide +kernel
set_option maxRecDepth 20000 in
theorem dX0_takeBack_40 : decode cX0_takeBack 40 = .ok (.return_, 1) := by decide +kernel
def f_X0_takeBack_2 (N : Nat) : Nat → (Nat → Int32) → Int32 → Int32 → Int32 → Option ((Nat → Int32))
  | 0, _, _, _, _ => none
  | n + 1, c_told, v1, v2, v3 =>
    (if 4 ≤ v3 then
      some c_told
    else
      (rdI 32 c_told ((v3 * 8) + v1)).bind fun t2 =>
      (if t2 = v2 then
        (wrI 32 c_told ((v3 * 8) + v1) (-1 : Int32)).bind fun t4 =>
        f_X0_takeBack_2 N n t4 v1 v2 (v3 + 1)
      else
        f_X0_takeBack_2 N n c_told v1 v2 (v3 + 1)))
set_option maxHeartbeats 4000000 in
set_option maxRecDepth 100000 in
theorem g_X0_takeBack_2 {κ : KC} {ω : KW} {A : Nat → Prop} {ad : Nat → Nat} {u_askers : Int32} {u_places : Int32} {u_age : Int32} {N : Nat}   {res : (Nat → Int32)} : ∀ (n : Nat) {c_told : Nat → Int32} {v1 : Int32} {v2 : Int32} {v3 : Int32}, f_X0_takeBack_2 N n c_told v1 v2 v3 = some res → GG mu_X0_takeBack κ ω A (QR κ ω A ad (none) (w_X0_takeBack res u_askers u_places u_age)) ad 0 0 2 (w_X0_takeBack c_told u_askers u_places u_age) [some (.ref 0), some (.int v1), some (.int v2), some (.int v3)] [] := by
  intro n
  induction n with
  | zero => intro c_told v1 v2 v3 hf; exact ob_0 hf
  | succ n ih =>
    intro c_told v1 v2 v3 hf
    refine G_iload_n dX0_takeBack_2 rfl rfl ?_
    refine G_iconst 4 dX0_takeBack_3 (by decide) ?_
    refine G_icmp_ge 40 dX0_takeBack_4 (by decide) (fun h1 => ?_) (fun h1 => ?_)
    · replace hf := ob_t h1 hf
      obtain rfl := os hf
      exact G_return dX0_takeBack_40 rfl
    · replace hf := ob_f h1 hf
      refine G_aload_n dX0_takeBack_7 rfl rfl ?_
      refine G_get (v := .ref 1) F_X0_21 dX0_takeBack_8 rfl rfl ?_
      refine G_iload_n dX0_takeBack_11 rfl rfl ?_
      refine G_bipush 8 dX0_takeBack_12 (by decide) ?_
      refine G_imul dX0_takeBack_14 ?_
      refine G_iload_n dX0_takeBack_15 rfl rfl ?_
      refine G_iadd dX0_takeBack_16 ?_
      obtain ⟨t2, ht2, hf⟩ := ob hf
      refine G_iald dX0_takeBack_17 rfl ht2 ?_
      refine G_iload_n dX0_takeBack_18 rfl rfl ?_
      refine G_icmp_ne 34 dX0_takeBack_19 (by decide) (fun h3 => ?_) (fun h3 => ?_)
      · replace hf := ob_f h3 hf
        refine G_iinc 1 dX0_takeBack_34 (by decide) rfl (ltb rfl) ?_
        change GG _ _ _ _ _ _ _ _ _ _ [some (.ref 0), some (.int v1), some (.int v2), some (.int (v3 + 1))] _
        refine G_goto 2 dX0_takeBack_37 (by decide) ?_
        exact ih hf
      · replace hf := ob_t h3 hf
        refine G_aload_n dX0_takeBack_22 rfl rfl ?_
        refine G_get (v := .ref 1) F_X0_21 dX0_takeBack_23 rfl rfl ?_
        refine G_iload_n dX0_takeBack_26 rfl rfl ?_
        refine G_bipush 8 dX0_takeBack_27 (by decide) ?_
        refine G_imul dX0_takeBack_29 ?_
        refine G_iload_n dX0_takeBack_30 rfl rfl ?_
        refine G_iadd dX0_takeBack_31 ?_
        refine G_iconst (-1 : Int32) dX0_takeBack_32 (by decide) ?_
        obtain ⟨t4, ht4, hf⟩ := ob hf
        refine G_iast (w2 := (w_X0_takeBack t4 u_askers u_places u_age)) dX0_takeBack_33 rfl ht4 rfl ?_
        refine G_iinc 1 dX0_takeBack_34 (by decide) rfl (ltb rfl) ?_
        change GG _ _ _ _ _ _ _ _ _ _ [some (.ref 0), some (.int v1), some (.int v2), some (.int (v3 + 1))] _
        refine G_goto 2 dX0_takeBack_37 (by decide) ?_
        exact ih hf
def f_X0_takeBack (N : Nat) (c_told : Nat → Int32) (a1 : Int32) (a2 : Int32) : Option ((Nat → Int32)) :=
  f_X0_takeBack_2 N N c_told a1 a2 0
set_option maxHeartbeats 4000000 in
set_option maxRecDepth 100000 in
theorem c_X0_takeBack {N : Nat}  {c_told : Nat → Int32} {u_askers : Int32} {u_places : Int32} {u_age : Int32} {a1 : Int32} {a2 : Int32} {res : (Nat → Int32)} (hf : f_X0_takeBack N c_told a1 a2 = some res) : Con mu_X0_takeBack [.ref 0, .int a1, .int a2] (w_X0_takeBack c_told u_askers u_places u_age) (none) (w_X0_takeBack res u_askers u_places u_age) := by
  refine Con.mk (show plainName RX0 = true by decide +kernel) (leb rfl) (fun κ ω A ad => ?_)
  change GG mu_X0_takeBack κ ω A (QR κ ω A ad (none) (w_X0_takeBack res u_askers u_places u_age)) ad 0 0 0 (w_X0_takeBack c_told u_askers u_places u_age) [some (.ref 0), some (.int a1), some (.int a2), none] []
  refine G_iconst 0 dX0_takeBack_0 (by decide) ?_
  refine G_istore_n dX0_takeBack_1 rfl (ltb rfl) ?_
  change GG _ _ _ _ _ _ _ _ _ _ [some (.ref 0), some (.int a1), some (.int a2), some (.int 0)] _
  exact g_X0_takeBack_2 N hf
set_option maxRecDepth 20000 in
theorem dX0_setWish_0 : decode cX0_setWish 0 = .ok (.aload_n 0, 1) := by decide +kernel
set_option maxRecDepth 20000 in
theorem dX0_setWish_1 : decode cX0_setWish 1 = .ok (.getfield 15, 3) := by decide +kernel
set_option maxRecDepth 20000 in
theorem dX0_setWish_4 : decode cX0_setWish 4 = .ok (.iload_n 1, 1) := by decide +kernel
set_option maxRecDepth 20000 in
theorem dX0_setWish_5 : decode cX0_setWish 5 = .ok (.bipush 6, 2) := by decide +kernel
set_option maxRecDepth 20000 in
theorem dX0_setWish_7 : decode cX0_setWish 7 = .ok (.imul, 1) := by decide +kernel
set_option maxRecDepth 20000 in
theorem dX0_setWish_8 : decode cX0_setWish 8 = .ok (.iload_n 2, 1) := by decide +kernel
set_option maxRecDepth 20000 in
theorem dX0_setWish_9 : decode cX0_setWish 9 = .ok (.iadd, 1) := by decide +kernel
set_option maxRecDepth 20000 in
theorem dX0_setWish_10 : decode cX0_setWish 10 = .ok (.iaload, 1) := by decide +kernel
set_option maxRecDepth 20000 in
theorem dX0_setWish_11 : decode cX0_setWish 11 = .ok (.istore 4, 2) := by decide +kernel
set_option maxRecDepth 20000 in
theorem dX0_setWish_13 : decode cX0_setWish 13 = .ok (.aload_n 0, 1) := by decide +kernel
set_option maxRecDepth 20000 in
theorem dX0_setWish_14 : decode cX0_setWish 14 = .ok (.dup, 1) := by decide +kernel
set_option maxRecDepth 20000 in
theorem dX0_setWish_15 : decode cX0_setWish 15 = .ok (.getfield 31, 3) := by decide +kernel
set_option maxRecDepth 20000 in
theorem dX0_setWish_18 : decode cX0_setWish 18 = .ok (.iconst 1, 1) := by decide +kernel
set_option maxRecDepth 20000 in
theorem dX0_setWish_19 : decode cX0_setWish 19 = .ok (.iadd, 1) := by decide +kernel
set_option maxRecDepth 20000 in
theorem dX0_setWish_20 : decode cX0_setWish 20 = .ok (.putfield 31, 3) := by decide +kernel
set_option maxRecDepth 20000 in
theorem dX0_setWish_23 : decode cX0_setWish 23 = .ok (.aload_n 0, 1) := by decide +kernel
set_option maxRecDepth 20000 in
theorem dX0_setWish_24 : decode cX0_setWish 24 = .ok (.getfield 15, 3) := by decide +kernel
set_option maxRecDepth 20000 in
theorem dX0_setWish_27 : decode cX0_setWish 27 = .ok (.iload_n 1, 1) := by decide +kernel
set_option maxRecDepth 20000 in
theorem dX0_setWish_28 : decode cX0_setWish 28 = .ok (.bipush 6, 2) := by decide +kernel
set_option maxRecDepth 20000 in
theorem dX0_setWish_30 : decode cX0_setWish 30 = .ok (.imul, 1) := by decide +kernel
set_option maxRecDepth 20000 in
theorem dX0_setWish_31 : decode cX0_setWish 31 = .ok (.iload_n 2, 1) := by decide +kernel
set_option maxRecDepth 20000 in
theorem dX0_setWish_32 : decode cX0_setWish 32 = .ok (.iadd, 1) := by decide +kernel
set_option maxRecDepth 20000 in
theorem dX0_setWish_33 : decode cX0_setWish 33 = .ok (.iload_n 3, 1) := by decide +kernel
set_option maxRecDepth 20000 in
theorem dX0_setWish_34 : decode cX0_setWish 34 = .ok (.iastore, 1) := by decide +kernel
set_option maxRecDepth 20000 in
theorem dX0_setWish_35 : decode cX0_setWish 35 = .ok (.aload_n 0, 1) := by decide +kernel
set_option maxRecDepth 20000 in
theorem dX0_setWish_36 : decode cX0_setWish 36 = .ok (.iload_n 1, 1) := by decide +kernel
set_option maxRecDepth 20000 in
theorem dX0_setWish_37 : decode cX0_setWish 37 = .ok (.invokevirtual 34, 3) := by decide +kernel
set_option maxRecDepth 20000 in
theorem dX0_setWish_40 : decode cX0_setWish 40 = .ok (.iload_n 3, 1) := by decide +kernel
set_option maxRecDepth 20000 in
theorem dX0_setWish_41 : decode cX0_setWish 41 = .ok (.ifCond .ne 9, 3) := by decide +kernel
set_option maxRecDepth 20000 in
theorem dX0_setWish_44 : decode cX0_setWish 44 = .ok (.aload_n 0, 1) := by decide +kernel
set_option maxRecDepth 20000 in
theorem dX0_setWish_45 : decode cX0_setWish 45 = .ok (.iload_n 1, 1) := by decide +kernel
set_option maxRecDepth 20000 in
theorem dX0_setWish_46 : decode cX0_setWish 46 = .ok (.iload_n 2, 1) := by decide +kernel
set_option maxRecDepth 20000 in
theorem dX0_setWish_47 : decode cX0_setWish 47 = .ok (.invokevirtual 38, 3) := by decide +kernel
set_option maxRecDepth 20000 in
theorem dX0_setWish_50 : decode cX0_setWish 50 = .ok (.iload 4, 2) := by decide +kernel
set_option maxRecDepth 20000 in
theorem dX0_setWish_52 : decode cX0_setWish 52 = .ok (.ireturn, 1) := by decide +kernel
def f_X0_setWish (N : Nat) (c_places : Int32) (c_age : Int32) (c_likes : Nat → Int32) (c_told : Nat → Int32) (c_wishes : Nat → Int32) (a1 : Int32) (a2 : Int32) (a3 : Int32) : Option (Int32 × Int32 × (Nat → Int32) × (Nat → Int32) × (Nat → Int32)) :=
  (rdI 48 c_wishes ((a1 * 6) + a2)).bind fun t1 =>
  (wrI 48 c_wishes ((a1 * 6) + a2) a3).bind fun t2 =>
  (f_X0_sortLikes N c_places t2 c_likes a1).bind fun o3 =>
  (if a3 = 0 then
    (f_X0_takeBack N c_told a1 a2).bind fun o6 =>
    some (t1, c_age + 1, o3, o6, t2)
  else
    some (t1, c_age + 1, o3, c_told, t2))
set_option maxHeartbeats 4000000 in
set_option maxRecDepth 100000 in
theorem c_X0_setWish {N : Nat} {c_places : Int32} {c_age : Int32} {c_likes : Nat → Int32} {c_told : Nat → Int32} {c_wishes : Nat → Int32} {u_askers : Int32} {a1 : Int32} {a2 : Int32} {a3 : Int32} {res : Int32 × Int32 × (Nat → Int32) × (Nat → Int32) × (Nat → Int32)} (hf : f_X0_setWish N c_places c_age c_likes c_told c_wishes a1 a2 a3 = some res) : Con mu_X0_setWish [.ref 0, .int a1, .int a2, .int a3] (w_X0_setWish c_places c_age c_likes c_told c_wishes u_askers) (some (.int res.1)) (w_X0_setWish c_places res.2.1 res.2.2.1 res.2.2.2.1 res.2.2.2.2 u_askers) := by
  refine Con.mk (show plainName RX0 = true by decide +kernel) (leb rfl) (fun κ ω A ad => ?_)
  change GG mu_X0_setWish κ ω A (QR κ ω A ad (some (.int res.1)) (w_X0_setWish c_places res.2.1 res.2.2.1 res.2.2.2.1 res.2.2.2.2 u_askers)) ad 0 0 0 (w_X0_setWish c_places c_age c_likes c_told c_wishes u_askers) [some (.ref 0), some (.int a1), some (.int a2), some (.int a3), none] []
  refine G_aload_n dX0_setWish_0 rfl rfl ?_
  refine G_get (v := .ref 3) F_X0_15 dX0_setWish_1 rfl rfl ?_
  refine G_iload_n dX0_setWish_4 rfl rfl ?_
  refine G_bipush 6 dX0_setWish_5 (by decide) ?_
  refine G_imul dX0_setWish_7 ?_
  refine G_iload_n dX0_setWish_8 rfl rfl ?_
  refine G_iadd dX0_setWish_9 ?_
  obtain ⟨t1, ht1, hf⟩ := ob hf
  refine G_iald dX0_setWish_10 rfl ht1 ?_
  refine G_istore dX0_setWish_11 (ltb rfl) ?_
  change GG _ _ _ _ _ _ _ _ _ _ [some (.ref 0), some (.int a1), some (.int a2), some (.int a3), some (.int t1)] _
  refine G_aload_n dX0_setWish_13 rfl rfl ?_
  refine G_dup dX0_setWish_14 rfl ?_
  refine G_get (v := .int c_age) F_X0_31 dX0_setWish_15 rfl rfl ?_
  refine G_iconst 1 dX0_setWish_18 (by decide) ?_
  refine G_iadd dX0_setWish_19 ?_
  refine G_put (w2 := (w_X0_setWish c_places (c_age + 1) c_likes c_told c_wishes u_askers)) F_X0_31 dX0_setWish_20 rfl rfl rfl (ltb rfl) rfl ?_
  refine G_aload_n dX0_setWish_23 rfl rfl ?_
  refine G_get (v := .ref 3) F_X0_15 dX0_setWish_24 rfl rfl ?_
  refine G_iload_n dX0_setWish_27 rfl rfl ?_
  refine G_bipush 6 dX0_setWish_28 (by decide) ?_
  refine G_imul dX0_setWish_30 ?_
  refine G_iload_n dX0_setWish_31 rfl rfl ?_
  refine G_iadd dX0_setWish_32 ?_
  refine G_iload_n dX0_setWish_33 rfl rfl ?_
  obtain ⟨t2, ht2, hf⟩ := ob hf
  refine G_iast (w2 := (w_X0_setWish c_places (c_age + 1) c_likes c_told t2 u_askers)) dX0_setWish_34 rfl ht2 rfl ?_
  refine G_aload_n dX0_setWish_35 rfl rfl ?_
  refine G_iload_n dX0_setWish_36 rfl rfl ?_
  obtain ⟨o3, hc4, hf⟩ := ob hf
  refine G_callV (μ2 := mu_X0_sortLikes) (As := [.int a1]) (w2 := (w_X0_setWish c_places (c_age + 1) o3 c_told t2 u_askers)) (wc := (w_X0_sortLikes c_places c_likes t2 u_askers (c_age + 1))) (wc2 := (w_X0_sortLikes c_places o3 t2 u_askers (c_age + 1))) (rest := []) (rv := []) [0, 1, 3] [1000, 2] [2] [1, 2, 0, 3] (c_X0_sortLikes hc4) cw_X0_sortLikes m_X0_34 dX0_setWish_37 rfl ⟨leb rfl, leb rfl⟩ ⟨rfl, rfl⟩ rfl ⟨_, rfl, rfl⟩ (Fit.mk rfl rfl rfl) rfl (leb rfl) (ROsub.nil rfl rfl) rfl ?_
  change GG _ _ _ _ _ _ _ _ _ (w_X0_setWish c_places (c_age + 1) o3 c_told t2 u_askers) [some (.ref 0), some (.int a1), some (.int a2), some (.int a3), some (.int t1)] []
  refine G_iload_n dX0_setWish_40 rfl rfl ?_
  refine G_if_ne 50 dX0_setWish_41 (by decide) (fun h5 => ?_) (fun h5 => ?_)
  · replace hf := ob_f h5 hf
    refine G_iload dX0_setWish_50 rfl ?_
    obtain rfl := os hf
    exact G_ireturn dX0_setWish_52 rfl
  · replace hf := ob_t h5 hf
    refine G_aload_n dX0_setWish_44 rfl rfl ?_
    refine G_iload_n dX0_setWish_45 rfl rfl ?_
    refine G_iload_n dX0_setWish_46 rfl rfl ?_
    obtain ⟨o6, hc7, hf⟩ := ob hf
    refine G_callV (μ2 := mu_X0_takeBack) (As := [.int a1, .int a2]) (w2 := (w_X0_setWish c_places (c_age + 1) o3 o6 t2 u_askers)) (wc := (w_X0_takeBack c_told u_askers c_places (c_age + 1))) (wc2 := (w_X0_takeBack o6 u_askers c_places (c_age + 1))) (rest := []) (rv := []) [0, 2] [1000, 3, 1] [1, 3] [2, 0, 3, 1] (c_X0_takeBack hc7) cw_X0_takeBack m_X0_38 dX0_setWish_47 rfl ⟨leb rfl, leb rfl⟩ ⟨rfl, rfl⟩ rfl ⟨_, rfl, rfl⟩ (Fit.mk rfl rfl rfl) rfl (leb rfl) (ROsub.nil rfl rfl) rfl ?_
    change GG _ _ _ _ _ _ _ _ _ (w_X0_setWish c_places (c_age + 1) o3 o6 t2 u_askers) [some (.ref 0), some (.int a1), some (.int a2), some (.int a3), some (.int t1)] []
    refine G_iload dX0_setWish_50 rfl ?_
    obtain rfl := os hf
    exact G_ireturn dX0_setWish_52 rfl
set_option maxRecDepth 20000 in
theorem dX0_likeAt_0 : decode cX0_likeAt 0 = .ok (.aload_n 0, 1) := by decide +kernel
set_option maxRecDepth 20000 in
theorem dX0_likeAt_1 : decode cX0_likeAt 1 = .ok (.getfield 18, 3) := by decide +kernel
set_option maxRecDepth 20000 in
theorem dX0_likeAt_4 : decode cX0_likeAt 4 = .ok (.iload_n 1, 1) := by decide +kernel
set_option maxRecDepth 20000 in
theorem dX0_likeAt_5 : decode cX0_likeAt 5 = .ok (.bipush 6, 2) := by decide +kernel
set_option maxRecDepth 20000 in
theorem dX0_likeAt_7 : decode cX0_likeAt 7 = .ok (.imul, 1) := by decide +kernel
set_option maxRecDepth 20000 in
theorem dX0_likeAt_8 : decode cX0_likeAt 8 = .ok (.iload_n 2, 1) := by decide +kernel
set_option maxRecDepth 20000 in
theorem dX0_likeAt_9 : decode cX0_likeAt 9 = .ok (.iadd, 1) := by decide +kernel
set_option maxRecDepth 20000 in
theorem dX0_likeAt_10 : decode cX0_likeAt 10 = .ok (.iaload, 1) := by decide +kernel
set_option maxRecDepth 20000 in
theorem dX0_likeAt_11 : decode cX0_likeAt 11 = .ok (.ireturn, 1) := by decide +kernel
def f_X0_likeAt (N : Nat) (c_likes : Nat → Int32) (a1 : Int32) (a2 : Int32) : Option (Int32) :=
  (rdI 48 c_likes ((a1 * 6) + a2)).bind fun t1 =>
  some t1
set_option maxHeartbeats 4000000 in
set_option maxRecDepth 100000 in
theorem c_X0_likeAt {N : Nat} {c_likes : Nat → Int32}  {u_askers : Int32} {u_places : Int32} {u_age : Int32} {a1 : Int32} {a2 : Int32} {res : Int32} (hf : f_X0_likeAt N c_likes a1 a2 = some res) : Con mu_X0_likeAt [.ref 0, .int a1, .int a2] (w_X0_likeAt c_likes u_askers u_places u_age) (some (.int res)) (w_X0_likeAt c_likes u_askers u_places u_age) := by
  refine Con.mk (show plainName RX0 = true by decide +kernel) (leb rfl) (fun κ ω A ad => ?_)
  change GG mu_X0_likeAt κ ω A (QR κ ω A ad (some (.int res)) (w_X0_likeAt c_likes u_askers u_places u_age)) ad 0 0 0 (w_X0_likeAt c_likes u_askers u_places u_age) [some (.ref 0), some (.int a1), some (.int a2)] []
  refine G_aload_n dX0_likeAt_0 rfl rfl ?_
  refine G_get (v := .ref 1) F_X0_18 dX0_likeAt_1 rfl rfl ?_
  refine G_iload_n dX0_likeAt_4 rfl rfl ?_
  refine G_bipush 6 dX0_likeAt_5 (by decide) ?_
  refine G_imul dX0_likeAt_7 ?_
  refine G_iload_n dX0_likeAt_8 rfl rfl ?_
  refine G_iadd dX0_likeAt_9 ?_
  obtain ⟨t1, ht1, hf⟩ := ob hf
  refine G_iald dX0_likeAt_10 rfl ht1 ?_
  obtain rfl := os hf
  exact G_ireturn dX0_likeAt_11 rfl
set_option maxRecDepth 20000 in
theorem dX0_wishOf_0 : decode cX0_wishOf 0 = .ok (.aload_n 0, 1) := by decide +kernel
set_option maxRecDepth 20000 in
theorem dX0_wishOf_1 : decode cX0_wishOf 1 = .ok (.getfield 15, 3) := by decide +kernel
set_option maxRecDepth 20000 in
theorem dX0_wishOf_4 : decode cX0_wishOf 4 = .ok (.iload_n 1, 1) := by decide +kernel
set_option maxRecDepth 20000 in
theorem dX0_wishOf_5 : decode cX0_wishOf 5 = .ok (.bipush 6, 2) := by decide +kernel
set_option maxRecDepth 20000 in
theorem dX0_wishOf_7 : decode cX0_wishOf 7 = .ok (.imul, 1) := by decide +kernel
set_option maxRecDepth 20000 in
theorem dX0_wishOf_8 : decode cX0_wishOf 8 = .ok (.iload_n 2, 1) := by decide +kernel
set_option maxRecDepth 20000 in
theorem dX0_wishOf_9 : decode cX0_wishOf 9 = .ok (.iadd, 1) := by decide +kernel
set_option maxRecDepth 20000 in
theorem dX0_wishOf_10 : decode cX0_wishOf 10 = .ok (.iaload, 1) := by decide +kernel
set_option maxRecDepth 20000 in
theorem dX0_wishOf_11 : decode cX0_wishOf 11 = .ok (.ireturn, 1) := by decide +kernel
def f_X0_wishOf (N : Nat) (c_wishes : Nat → Int32) (a1 : Int32) (a2 : Int32) : Option (Int32) :=
  (rdI 48 c_wishes ((a1 * 6) + a2)).bind fun t1 =>
  some t1
set_option maxHeartbeats 4000000 in
set_option maxRecDepth 100000 in
theorem c_X0_wishOf {N : Nat} {c_wishes : Nat → Int32}  {u_askers : Int32} {u_places : Int32} {u_age : Int32} {a1 : Int32} {a2 : Int32} {res : Int32} (hf : f_X0_wishOf N c_wishes a1 a2 = some res) : Con mu_X0_wishOf [.ref 0, .int a1, .int a2] (w_X0_wishOf c_wishes u_askers u_places u_age) (some (.int res)) (w_X0_wishOf c_wishes u_askers u_places u_age) := by
  refine Con.mk (show plainName RX0 = true by decide +kernel) (leb rfl) (fun κ ω A ad => ?_)
  change GG mu_X0_wishOf κ ω A (QR κ ω A ad (some (.int res)) (w_X0_wishOf c_wishes u_askers u_places u_age)) ad 0 0 0 (w_X0_wishOf c_wishes u_askers u_places u_age) [some (.ref 0), some (.int a1), some (.int a2)] []
  refine G_aload_n dX0_wishOf_0 rfl rfl ?_
  refine G_get (v := .ref 1) F_X0_15 dX0_wishOf_1 rfl rfl ?_
  refine G_iload_n dX0_wishOf_4 rfl rfl ?_
  refine G_bipush 6 dX0_wishOf_5 (by decide) ?_
  refine G_imul dX0_wishOf_7 ?_
  refine G_iload_n dX0_wishOf_8 rfl rfl ?_
  refine G_iadd dX0_wishOf_9 ?_
  obtain ⟨t1, ht1, hf⟩ := ob hf
  refine G_iald dX0_wishOf_10 rfl ht1 ?_
  obtain rfl := os hf
  exact G_ireturn dX0_wishOf_11 rfl
set_option maxRecDepth 20000 in
theorem dX0_worthOf_0 : decode cX0_worthOf 0 = .ok (.iload_n 2, 1) := by decide +kernel
set_option maxRecDepth 20000 in
theorem dX0_worthOf_1 : decode cX0_worthOf 1 = .ok (.ifCond .lt 9, 3) := by decide +kernel
set_option maxRecDepth 20000 in
theorem dX0_worthOf_4 : decode cX0_worthOf 4 = .ok (.iload_n 2, 1) := by decide +kernel
set_option maxRecDepth 20000 in
theorem dX0_worthOf_5 : decode cX0_worthOf 5 = .ok (.bipush 6, 2) := by decide +kernel
set_option maxRecDepth 20000 in
theorem dX0_worthOf_7 : decode cX0_worthOf 7 = .ok (.if_icmp .lt 6, 3) := by decide +kernel
set_option maxRecDepth 20000 in
theorem dX0_worthOf_10 : decode cX0_worthOf 10 = .ok (.bipush 7, 2) := by decide +kernel
set_option maxRecDepth 20000 in
theorem dX0_worthOf_12 : decode cX0_worthOf 12 = .ok (.ireturn, 1) := by decide +kernel
set_option maxRecDepth 20000 in
theorem dX0_worthOf_13 : decode cX0_worthOf 13 = .ok (.aload_n 0, 1) := by decide +kernel
set_option maxRecDepth 20000 in
theorem dX0_worthOf_14 : decode cX0_worthOf 14 = .ok (.getfield 15, 3) := by decide +kernel
set_option maxRecDepth 20000 in
theorem dX0_worthOf_17 : decode cX0_worthOf 17 = .ok (.iload_n 1, 1) := by decide +kernel
set_option maxRecDepth 20000 in
theorem dX0_worthOf_18 : decode cX0_worthOf 18 = .ok (.bipush 6, 2) := by decide +kernel
set_option maxRecDepth 20000 in
theorem dX0_worthOf_20 : decode cX0_worthOf 20 = .ok (.imul, 1) := by decide +kernel
set_option maxRecDepth 20000 in
theorem dX0_worthOf_21 : decode cX0_worthOf 21 = .ok (.iload_n 2, 1) := by decide +kernel
set_option maxRecDepth 20000 in
theorem dX0_worthOf_22 : decode cX0_worthOf 22 = .ok (.iadd, 1) := by decide +kernel
set_option maxRecDepth 20000 in
theorem dX0_worthOf_23 : decode cX0_worthOf 23 = .ok (.iaload, 1) := by decide +kernel
set_option maxRecDepth 20000 in
theorem dX0_worthOf_24 : decode cX0_worthOf 24 = .ok (.istore_n 3, 1) := by decide +kernel
set_option maxRecDepth 20000 in
theorem dX0_worthOf_25 : decode cX0_worthOf 25 = .ok (.iload_n 3, 1) := by decide +kernel
set_option maxRecDepth 20000 in
theorem dX0_worthOf_26 : decode cX0_worthOf 26 = .ok (.ifCond .ne 8, 3) := by decide +kernel
set_option maxRecDepth 20000 in
theorem dX0_worthOf_29 : decode cX0_worthOf 29 = .ok (.bipush 8, 2) := by decide +kernel
set_option maxRecDepth 20000 in
theorem dX0_worthOf_31 : decode cX0_worthOf 31 = .ok (.goto 4, 3) := by decide +kernel
set_option maxRecDepth 20000 in
theorem dX0_worthOf_34 : decode cX0_worthOf 34 = .ok (.iload_n 3, 1) := by decide +kernel
set_option maxRecDepth 20000 in
theorem dX0_worthOf_35 : decode cX0_worthOf 35 = .ok (.ireturn, 1) := by decide +kernel
def f_X0_worthOf (N : Nat) (c_wishes : Nat → Int32) (a1 : Int32) (a2 : Int32) : Option (Int32) :=
  (if a2 < 0 then
    some 7
  else
    (if a2 < 6 then
      (rdI 48 c_wishes ((a1 * 6) + a2)).bind fun t3 =>
      (if t3 = 0 then
        some 8
      else
        some t3)
    else
      some 7))
set_option maxHeartbeats 4000000 in
set_option maxRecDepth 100000 in
theorem c_X0_worthOf {N : Nat} {c_wishes : Nat → Int32}  {u_askers : Int32} {u_places : Int32} {u_age : Int32} {a1 : Int32} {a2 : Int32} {res : Int32} (hf : f_X0_worthOf N c_wishes a1 a2 = some res) : Con mu_X0_worthOf [.ref 0, .int a1, .int a2] (w_X0_worthOf c_wishes u_askers u_places u_age) (some (.int res)) (w_X0_worthOf c_wishes u_askers u_places u_age) := by
  refine Con.mk (show plainName RX0 = true by decide +kernel) (leb rfl) (fun κ ω A ad => ?_)
  change GG mu_X0_worthOf κ ω A (QR κ ω A ad (some (.int res)) (w_X0_worthOf c_wishes u_askers u_places u_age)) ad 0 0 0 (w_X0_worthOf c_wishes u_askers u_places u_age) [some (.ref 0), some (.int a1), some (.int a2), none] []
  refine G_iload_n dX0_worthOf_0 rfl rfl ?_
  refine G_if_lt 10 dX0_worthOf_1 (by decide) (fun h1 => ?_) (fun h1 => ?_)
  · replace hf := ob_t h1 hf
    refine G_bipush 7 dX0_worthOf_10 (by decide) ?_
    obtain rfl := os hf
    exact G_ireturn dX0_worthOf_12 rfl
  · replace hf := ob_f h1 hf
    refine G_iload_n dX0_worthOf_4 rfl rfl ?_
    refine G_bipush 6 dX0_worthOf_5 (by decide) ?_
    refine G_icmp_lt 13 dX0_worthOf_7 (by decide) (fun h2 => ?_) (fun h2 => ?_)
    · replace hf := ob_t h2 hf
      refine G_aload_n dX0_worthOf_13 rfl rfl ?_
      refine G_get (v := .ref 1) F_X0_15 dX0_worthOf_14 rfl rfl ?_
      refine G_iload_n dX0_worthOf_17 rfl rfl ?_
      refine G_bipush 6 dX0_worthOf_18 (by decide) ?_
      refine G_imul dX0_worthOf_20 ?_
      refine G_iload_n dX0_worthOf_21 rfl rfl ?_
      refine G_iadd dX0_worthOf_22 ?_
      obtain ⟨t3, ht3, hf⟩ := ob hf
      refine G_iald dX0_worthOf_23 rfl ht3 ?_
      refine G_istore_n dX0_worthOf_24 rfl (ltb rfl) ?_
      change GG _ _ _ _ _ _ _ _ _ _ [some (.ref 0), some (.int a1), some (.int a2), some (.int t3)] _
      refine G_iload_n dX0_worthOf_25 rfl rfl ?_
      refine G_if_ne 34 dX0_worthOf_26 (by decide) (fun h4 => ?_) (fun h4 => ?_)
      · replace hf := ob_f h4 hf
        refine G_iload_n dX0_worthOf_34 rfl rfl ?_
        obtain rfl := os hf
        exact G_ireturn dX0_worthOf_35 rfl
      · replace hf := ob_t h4 hf
        refine G_bipush 8 dX0_worthOf_29 (by decide) ?_
        refine G_goto 35 dX0_worthOf_31 (by decide) ?_
        obtain rfl := os hf
        exact G_ireturn dX0_worthOf_35 rfl
    · replace hf := ob_f h2 hf
      refine G_bipush 7 dX0_worthOf_10 (by decide) ?_
      obtain rfl := os hf
      exact G_ireturn dX0_worthOf_12 rfl
set_option maxRecDepth 20000 in
theorem dX0_firstWorth_0 : decode cX0_firstWorth 0 = .ok (.aload_n 0, 1) := by decide +kernel
set_option maxRecDepth 20000 in
theorem dX0_firstWorth_1 : decode cX0_firstWorth 1 = .ok (.iload_n 1, 1) := by decide +kernel
set_option maxRecDepth 20000 in
theorem dX0_firstWorth_2 : decode cX0_firstWorth 2 = .ok (.aload_n 0, 1) := by decide +kernel
set_option maxRecDepth 20000 in
theorem dX0_firstWorth_3 : decode cX0_firstWorth 3 = .ok (.getfield 18, 3) := by decide +kernel
set_option maxRecDepth 20000 in
theorem dX0_firstWorth_6 : decode cX0_firstWorth 6 = .ok (.iload_n 1, 1) := by decide +kernel
set_option maxRecDepth 20000 in
theorem dX0_firstWorth_7 : decode cX0_firstWorth 7 = .ok (.bipush 6, 2) := by decide +kernel
set_option maxRecDepth 20000 in
theorem dX0_firstWorth_9 : decode cX0_firstWorth 9 = .ok (.imul, 1) := by decide +kernel
set_option maxRecDepth 20000 in
theorem dX0_firstWorth_10 : decode cX0_firstWorth 10 = .ok (.iaload, 1) := by decide +kernel
set_option maxRecDepth 20000 in
theorem dX0_firstWorth_11 : decode cX0_firstWorth 11 = .ok (.invokevirtual 42, 3) := by decide +kernel
set_option maxRecDepth 20000 in
theorem dX0_firstWorth_14 : decode cX0_firstWorth 14 = .ok (.ireturn, 1) := by decide +kernel
def f_X0_firstWorth (N : Nat) (c_likes : Nat → Int32) (c_wishes : Nat → Int32) (a1 : Int32) : Option (Int32) :=
  (rdI 48 c_likes (a1 * 6)).bind fun t1 =>
  (f_X0_worthOf N c_wishes a1 t1).bind fun r2 =>
  some r2
set_option maxHeartbeats 4000000 in
set_option maxRecDepth 100000 in
theorem c_X0_firstWorth {N : Nat} {c_likes : Nat → Int32} {c_wishes : Nat → Int32}  {u_askers : Int32} {u_places : Int32} {u_age : Int32} {a1 : Int32} {res : Int32} (hf : f_X0_firstWorth N c_likes c_wishes a1 = some res) : Con mu_X0_firstWorth [.ref 0, .int a1] (w_X0_firstWorth c_likes c_wishes u_askers u_places u_age) (some (.int res)) (w_X0_firstWorth c_likes c_wishes u_askers u_places u_age) := by
  refine Con.mk (show plainName RX0 = true by decide +kernel) (leb rfl) (fun κ ω A ad => ?_)
  change GG mu_X0_firstWorth κ ω A (QR κ ω A ad (some (.int res)) (w_X0_firstWorth c_likes c_wishes u_askers u_places u_age)) ad 0 0 0 (w_X0_firstWorth c_likes c_wishes u_askers u_places u_age) [some (.ref 0), some (.int a1)] []
  refine G_aload_n dX0_firstWorth_0 rfl rfl ?_
  refine G_iload_n dX0_firstWorth_1 rfl rfl ?_
  refine G_aload_n dX0_firstWorth_2 rfl rfl ?_
  refine G_get (v := .ref 1) F_X0_18 dX0_firstWorth_3 rfl rfl ?_
  refine G_iload_n dX0_firstWorth_6 rfl rfl ?_
  refine G_bipush 6 dX0_firstWorth_7 (by decide) ?_
  refine G_imul dX0_firstWorth_9 ?_
  obtain ⟨t1, ht1, hf⟩ := ob hf
  refine G_iald dX0_firstWorth_10 rfl ht1 ?_
  obtain ⟨r2, hc3, hf⟩ := ob hf
  refine G_callV (μ2 := mu_X0_worthOf) (As := [.int a1, .int t1]) (w2 := (w_X0_firstWorth c_likes c_wishes u_askers u_places u_age)) (wc := (w_X0_worthOf c_wishes u_askers u_places u_age)) (wc2 := (w_X0_worthOf c_wishes u_askers u_places u_age)) (rest := []) (rv := [.int r2]) [0, 2] [1000, 1, 1001] [1] [1, 0, 2] (c_X0_worthOf hc3) cw_X0_worthOf m_X0_42 dX0_firstWorth_11 rfl ⟨leb rfl, leb rfl⟩ ⟨rfl, rfl⟩ rfl ⟨_, rfl, rfl⟩ (Fit.mk rfl rfl rfl) rfl (leb rfl) (ROsub.nil rfl rfl) rfl ?_
  change GG _ _ _ _ _ _ _ _ _ (w_X0_firstWorth c_likes c_wishes u_askers u_places u_age) [some (.ref 0), some (.int a1)] [.int r2]
  obtain rfl := os hf
  exact G_ireturn dX0_firstWorth_14 rfl
set_option maxRecDepth 20000 in
theorem dX0_isOpen_0 : decode cX0_isOpen 0 = .ok (.aload_n 0, 1) := by decide +kernel
set_option maxRecDepth 20000 in
theorem dX0_isOpen_1 : decode cX0_isOpen 1 = .ok (.iload_n 1, 1) := by decide +kernel
set_option maxRecDepth 20000 in
theorem dX0_isOpen_2 : decode cX0_isOpen 2 = .ok (.iload_n 2, 1) := by decide +kernel
set_option maxRecDepth 20000 in
theorem dX0_isOpen_3 : decode cX0_isOpen 3 = .ok (.invokevirtual 42, 3) := by decide +kernel
set_option maxRecDepth 20000 in
theorem dX0_isOpen_6 : decode cX0_isOpen 6 = .ok (.bipush 7, 2) := by decide +kernel
set_option maxRecDepth 20000 in
theorem dX0_isOpen_8 : decode cX0_isOpen 8 = .ok (.if_icmp .gt 7, 3) := by decide +kernel
set_option maxRecDepth 20000 in
theorem dX0_isOpen_11 : decode cX0_isOpen 11 = .ok (.iconst 1, 1) := by decide +kernel
set_option maxRecDepth 20000 in
theorem dX0_isOpen_12 : decode cX0_isOpen 12 = .ok (.goto 4, 3) := by decide +kernel
set_option maxRecDepth 20000 in
theorem dX0_isOpen_15 : decode cX0_isOpen 15 = .ok (.iconst 0, 1) := by decide +kernel
set_option maxRecDepth 20000 in
theorem dX0_isOpen_16 : decode cX0_isOpen 16 = .ok (.ireturn, 1) := by decide +kernel
def f_X0_isOpen (N : Nat) (c_wishes : Nat → Int32) (a1 : Int32) (a2 : Int32) : Option (Int32) :=
  (f_X0_worthOf N c_wishes a1 a2).bind fun r1 =>
  (if 7 < r1 then
    some 0
  else
    some 1)
set_option maxHeartbeats 4000000 in
set_option maxRecDepth 100000 in
theorem c_X0_isOpen {N : Nat} {c_wishes : Nat → Int32}  {u_askers : Int32} {u_places : Int32} {u_age : Int32} {a1 : Int32} {a2 : Int32} {res : Int32} (hf : f_X0_isOpen N c_wishes a1 a2 = some res) : Con mu_X0_isOpen [.ref 0, .int a1, .int a2] (w_X0_isOpen c_wishes u_askers u_places u_age) (some (.int res)) (w_X0_isOpen c_wishes u_askers u_places u_age) := by
  refine Con.mk (show plainName RX0 = true by decide +kernel) (leb rfl) (fun κ ω A ad => ?_)
  change GG mu_X0_isOpen κ ω A (QR κ ω A ad (some (.int res)) (w_X0_isOpen c_wishes u_askers u_places u_age)) ad 0 0 0 (w_X0_isOpen c_wishes u_askers u_places u_age) [some (.ref 0), some (.int a1), some (.int a2)] []
  refine G_aload_n dX0_isOpen_0 rfl rfl ?_
  refine G_iload_n dX0_isOpen_1 rfl rfl ?_
  refine G_iload_n dX0_isOpen_2 rfl rfl ?_
  obtain ⟨r1, hc2, hf⟩ := ob hf
  refine G_callV (μ2 := mu_X0_worthOf) (As := [.int a1, .int a2]) (w2 := (w_X0_isOpen c_wishes u_askers u_places u_age)) (wc := (w_X0_worthOf c_wishes u_askers u_places u_age)) (wc2 := (w_X0_worthOf c_wishes u_askers u_places u_age)) (rest := []) (rv := [.int r1]) [0, 1] [1000, 1001, 1002] [] [0, 1] (c_X0_worthOf hc2) cw_X0_worthOf m_X0_42 dX0_isOpen_3 rfl ⟨leb rfl, leb rfl⟩ ⟨rfl, rfl⟩ rfl ⟨_, rfl, rfl⟩ (Fit.mk rfl rfl rfl) rfl (leb rfl) (ROsub.nil rfl rfl) rfl ?_
  change GG _ _ _ _ _ _ _ _ _ (w_X0_isOpen c_wishes u_askers u_places u_age) [some (.ref 0), some (.int a1), some (.int a2)] [.int r1]
  refine G_bipush 7 dX0_isOpen_6 (by decide) ?_
  refine G_icmp_gt 15 dX0_isOpen_8 (by decide) (fun h3 => ?_) (fun h3 => ?_)
  · replace hf := ob_t h3 hf
    refine G_iconst 0 dX0_isOpen_15 (by decide) ?_
    obtain rfl := os hf
    exact G_zreturn dX0_isOpen_16 rfl z_0
  · replace hf := ob_f h3 hf
    refine G_iconst 1 dX0_isOpen_11 (by decide) ?_
    refine G_goto 16 dX0_isOpen_12 (by decide) ?_
    obtain rfl := os hf
    exact G_zreturn dX0_isOpen_16 rfl z_1
set_option maxRecDepth 20000 in
theorem dX0_toldOf_0 : decode cX0_toldOf 0 = .ok (.aload_n 0, 1) := by decide +kernel
set_option maxRecDepth 20000 in
theorem dX0_toldOf_1 : decode cX0_toldOf 1 = .ok (.getfield 21, 3) := by decide +kernel
set_option maxRecDepth 20000 in
theorem dX0_toldOf_4 : decode cX0_toldOf 4 = .ok (.iload_n 1, 1) := by decide +kernel
set_option maxRecDepth 20000 in
theorem dX0_toldOf_5 : decode cX0_toldOf 5 = .ok (.bipush 8, 2) := by decide +kernel
set_option maxRecDepth 20000 in
theorem dX0_toldOf_7 : decode cX0_toldOf 7 = .ok (.imul, 1) := by decide +kernel
set_option maxRecDepth 20000 in
theorem dX0_toldOf_8 : decode cX0_toldOf 8 = .ok (.iload_n 2, 1) := by decide +kernel
set_option maxRecDepth 20000 in
theorem dX0_toldOf_9 : decode cX0_toldOf 9 = .ok (.iadd, 1) := by decide +kernel
set_option maxRecDepth 20000 in
theorem dX0_toldOf_10 : decode cX0_toldOf 10 = .ok (.iaload, 1) := by decide +kernel
set_option maxRecDepth 20000 in
theorem dX0_toldOf_11 : decode cX0_toldOf 11 = .ok (.ireturn, 1) := by decide +kernel
def f_X0_toldOf (N : Nat) (c_told : Nat → Int32) (a1 : Int32) (a2 : Int32) : Option (Int32) :=
  (rdI 32 c_told ((a1 * 8) + a2)).bind fun t1 =>
  some t1
set_option maxHeartbeats 4000000 in
set_option maxRecDepth 100000 in
theorem c_X0_toldOf {N : Nat} {c_told : Nat → Int32}  {u_askers : Int32} {u_places : Int32} {u_age : Int32} {a1 : Int32} {a2 : Int32} {res : Int32} (hf : f_X0_toldOf N c_told a1 a2 = some res) : Con mu_X0_toldOf [.ref 0, .int a1, .int a2] (w_X0_toldOf c_told u_askers u_places u_age) (some (.int res)) (w_X0_toldOf c_told u_askers u_places u_age) := by
  refine Con.mk (show plainName RX0 = true by decide +kernel) (leb rfl) (fun κ ω A ad => ?_)
  change GG mu_X0_toldOf κ ω A (QR κ ω A ad (some (.int res)) (w_X0_toldOf c_told u_askers u_places u_age)) ad 0 0 0 (w_X0_toldOf c_told u_askers u_places u_age) [some (.ref 0), some (.int a1), some (.int a2)] []
  refine G_aload_n dX0_toldOf_0 rfl rfl ?_
  refine G_get (v := .ref 1) F_X0_21 dX0_toldOf_1 rfl rfl ?_
  refine G_iload_n dX0_toldOf_4 rfl rfl ?_
  refine G_bipush 8 dX0_toldOf_5 (by decide) ?_
  refine G_imul dX0_toldOf_7 ?_
  refine G_iload_n dX0_toldOf_8 rfl rfl ?_
  refine G_iadd dX0_toldOf_9 ?_
  obtain ⟨t1, ht1, hf⟩ := ob hf
  refine G_iald dX0_toldOf_10 rfl ht1 ?_
  obtain rfl := os hf
  exact G_ireturn dX0_toldOf_11 rfl
set_option maxRecDepth 20000 in
theorem dX0_toldWorth_0 : decode cX0_toldWorth 0 = .ok (.aload_n 0, 1) := by decide +kernel
set_option maxRecDepth 20000 in
theorem dX0_toldWorth_1 : decode cX0_toldWorth 1 = .ok (.iload_n 2, 1) := by decide +kernel
set_option maxRecDepth 20000 in
theorem dX0_toldWorth_2 : decode cX0_toldWorth 2 = .ok (.aload_n 0, 1) := by decide +kernel
set_option maxRecDepth 20000 in
theorem dX0_toldWorth_3 : decode cX0_toldWorth 3 = .ok (.iload_n 1, 1) := by decide +kernel
set_option maxRecDepth 20000 in
theorem dX0_toldWorth_4 : decode cX0_toldWorth 4 = .ok (.iload_n 2, 1) := by decide +kernel
set_option maxRecDepth 20000 in
theorem dX0_toldWorth_5 : decode cX0_toldWorth 5 = .ok (.invokevirtual 46, 3) := by decide +kernel
set_option maxRecDepth 20000 in
theorem dX0_toldWorth_8 : decode cX0_toldWorth 8 = .ok (.invokevirtual 42, 3) := by decide +kernel
set_option maxRecDepth 20000 in
theorem dX0_toldWorth_11 : decode cX0_toldWorth 11 = .ok (.ireturn, 1) := by decide +kernel
def f_X0_toldWorth (N : Nat) (c_told : Nat → Int32) (c_wishes : Nat → Int32) (a1 : Int32) (a2 : Int32) : Option (Int32) :=
  (f_X0_toldOf N c_told a1 a2).bind fun r1 =>
  (f_X0_worthOf N c_wishes a2 r1).bind fun r3 =>
  some r3
set_option maxHeartbeats 4000000 in
set_option maxRecDepth 100000 in
theorem c_X0_toldWorth {N : Nat} {c_told : Nat → Int32} {c_wishes : Nat → Int32}  {u_askers : Int32} {u_places : Int32} {u_age : Int32} {a1 : Int32} {a2 : Int32} {res : Int32} (hf : f_X0_toldWorth N c_told c_wishes a1 a2 = some res) : Con mu_X0_toldWorth [.ref 0, .int a1, .int a2] (w_X0_toldWorth c_told c_wishes u_askers u_places u_age) (some (.int res)) (w_X0_toldWorth c_told c_wishes u_askers u_places u_age) := by
  refine Con.mk (show plainName RX0 = true by decide +kernel) (leb rfl) (fun κ ω A ad => ?_)
  change GG mu_X0_toldWorth κ ω A (QR κ ω A ad (some (.int res)) (w_X0_toldWorth c_told c_wishes u_askers u_places u_age)) ad 0 0 0 (w_X0_toldWorth c_told c_wishes u_askers u_places u_age) [some (.ref 0), some (.int a1), some (.int a2)] []
  refine G_aload_n dX0_toldWorth_0 rfl rfl ?_
  refine G_iload_n dX0_toldWorth_1 rfl rfl ?_
  refine G_aload_n dX0_toldWorth_2 rfl rfl ?_
  refine G_iload_n dX0_toldWorth_3 rfl rfl ?_
  refine G_iload_n dX0_toldWorth_4 rfl rfl ?_
  obtain ⟨r1, hc2, hf⟩ := ob hf
  refine G_callV (μ2 := mu_X0_toldOf) (As := [.int a1, .int a2]) (w2 := (w_X0_toldWorth c_told c_wishes u_askers u_places u_age)) (wc := (w_X0_toldOf c_told u_askers u_places u_age)) (wc2 := (w_X0_toldOf c_told u_askers u_places u_age)) (rest := [.int a2, .ref 0]) (rv := [.int r1]) [0, 1] [1000, 2, 1001] [2] [1, 2, 0] (c_X0_toldOf hc2) cw_X0_toldOf m_X0_46 dX0_toldWorth_5 rfl ⟨leb rfl, leb rfl⟩ ⟨rfl, rfl⟩ rfl ⟨_, rfl, rfl⟩ (Fit.mk rfl rfl rfl) rfl (leb rfl) (ROsub.nil rfl rfl) rfl ?_
  change GG _ _ _ _ _ _ _ _ _ (w_X0_toldWorth c_told c_wishes u_askers u_places u_age) [some (.ref 0), some (.int a1), some (.int a2)] [.int r1, .int a2, .ref 0]
  obtain ⟨r3, hc4, hf⟩ := ob hf
  refine G_callV (μ2 := mu_X0_worthOf) (As := [.int a2, .int r1]) (w2 := (w_X0_toldWorth c_told c_wishes u_askers u_places u_age)) (wc := (w_X0_worthOf c_wishes u_askers u_places u_age)) (wc2 := (w_X0_worthOf c_wishes u_askers u_places u_age)) (rest := []) (rv := [.int r3]) [0, 2] [1000, 1001, 1] [1] [1, 0, 2] (c_X0_worthOf hc4) cw_X0_worthOf m_X0_42 dX0_toldWorth_8 rfl ⟨leb rfl, leb rfl⟩ ⟨rfl, rfl⟩ rfl ⟨_, rfl, rfl⟩ (Fit.mk rfl rfl rfl) rfl (leb rfl) (ROsub.nil rfl rfl) rfl ?_
  change GG _ _ _ _ _ _ _ _ _ (w_X0_toldWorth c_told c_wishes u_askers u_places u_age) [some (.ref 0), some (.int a1), some (.int a2)] [.int r3]
  obtain rfl := os hf
  exact G_ireturn dX0_toldWorth_11 rfl
set_option maxRecDepth 20000 in
theorem dX0_tell_0 : decode cX0_tell 0 = .ok (.aload_n 0, 1) := by decide +kernel
set_option maxRecDepth 20000 in
theorem dX0_tell_1 : decode cX0_tell 1 = .ok (.getfield 21, 3) := by decide +kernel
set_option maxRecDepth 20000 in
theorem dX0_tell_4 : decode cX0_tell 4 = .ok (.iload_n 1, 1) := by decide +kernel
set_option maxRecDepth 20000 in
theorem dX0_tell_5 : decode cX0_tell 5 = .ok (.bipush 8, 2) := by decide +kernel
set_option maxRecDepth 20000 in
theorem dX0_tell_7 : decode cX0_tell 7 = .ok (.imul, 1) := by decide +kernel
set_option maxRecDepth 20000 in
theorem dX0_tell_8 : decode cX0_tell 8 = .ok (.iload_n 2, 1) := by decide +kernel
set_option maxRecDepth 20000 in
theorem dX0_tell_9 : decode cX0_tell 9 = .ok (.iadd, 1) := by decide +kernel
set_option maxRecDepth 20000 in
theorem dX0_tell_10 : decode cX0_tell 10 = .ok (.iload_n 3, 1) := by decide +kernel
set_option maxRecDepth 20000 in
theorem dX0_tell_11 : decode cX0_tell 11 = .ok (.iastore, 1) := by decide +kernel
set_option maxRecDepth 20000 in
theorem dX0_tell_12 : decode cX0_tell 12 = .ok (.return_, 1) := by decide +kernel
def f_X0_tell (N : Nat) (c_told : Nat → Int32) (a1 : Int32) (a2 : Int32) (a3 : Int32) : Option ((Nat → Int32)) :=
  (wrI 32 c_told ((a1 * 8) + a2) a3).bind fun t1 =>
  some t1
set_option maxHeartbeats 4000000 in
set_option maxRecDepth 100000 in
theorem c_X0_tell {N : Nat}  {c_told : Nat → Int32} {u_askers : Int32} {u_places : Int32} {u_age : Int32} {a1 : Int32} {a2 : Int32} {a3 : Int32} {res : (Nat → Int32)} (hf : f_X0_tell N c_told a1 a2 a3 = some res) : Con mu_X0_tell [.ref 0, .int a1, .int a2, .int a3] (w_X0_tell c_told u_askers u_places u_age) (none) (w_X0_tell res u_askers u_places u_age) := by
  refine Con.mk (show plainName RX0 = true by decide +kernel) (leb rfl) (fun κ ω A ad => ?_)
  change GG mu_X0_tell κ ω A (QR κ ω A ad (none) (w_X0_tell res u_askers u_places u_age)) ad 0 0 0 (w_X0_tell c_told u_askers u_places u_age) [some (.ref 0), some (.int a1), some (.int a2), some (.int a3)] []
  refine G_aload_n dX0_tell_0 rfl rfl ?_
  refine G_get (v := .ref 1) F_X0_21 dX0_tell_1 rfl rfl ?_
  refine G_iload_n dX0_tell_4 rfl rfl ?_
  refine G_bipush 8 dX0_tell_5 (by decide) ?_
  refine G_imul dX0_tell_7 ?_
  refine G_iload_n dX0_tell_8 rfl rfl ?_
  refine G_iadd dX0_tell_9 ?_
  refine G_iload_n dX0_tell_10 rfl rfl ?_
  obtain ⟨t1, ht1, hf⟩ := ob hf
  refine G_iast (w2 := (w_X0_tell t1 u_askers u_places u_age)) dX0_tell_11 rfl ht1 rfl ?_
  obtain rfl := os hf
  exact G_return dX0_tell_12 rfl
set_option maxRecDepth 20000 in
theorem dX0_holders_0 : decode cX0_holders 0 = .ok (.iconst 0, 1) := by decide +kernel
set_option maxRecDepth 20000 in
theorem dX0_holders_1 : decode cX0_holders 1 = .ok (.istore 4, 2) := by decide +kernel
set_option maxRecDepth 20000 in
theorem dX0_holders_3 : decode cX0_holders 3 = .ok (.iconst 0, 1) := by decide +kernel
set_option maxRecDepth 20000 in
theorem dX0_holders_4 : decode cX0_holders 4 = .ok (.istore 5, 2) := by decide +kernel
set_option maxRecDepth 20000 in
theorem dX0_holders_6 : decode cX0_holders 6 = .ok (.iload 5, 2) := by decide +kernel
set_option maxRecDepth 20000 in
theorem dX0_holders_8 : decode cX0_holders 8 = .ok (.aload_n 0, 1) := by decide +kernel
set_option maxRecDepth 20000 in
theorem dX0_holders_9 : decode cX0_holders 9 = .ok (.getfield 24, 3) := by decide +kernel
set_option maxRecDepth 20000 in
theorem dX0_holders_12 : decode cX0_holders 12 = .ok (.if_icmp .ge 29, 3) := by decide +kernel
set_option maxRecDepth 20000 in
theorem dX0_holders_15 : decode cX0_holders 15 = .ok (.iload 5, 2) := by decide +kernel
set_option maxRecDepth 20000 in
theorem dX0_holders_17 : decode cX0_holders 17 = .ok (.iload_n 3, 1) := by decide +kernel
set_option maxRecDepth 20000 in
theorem dX0_holders_18 : decode cX0_holders 18 = .ok (.if_icmp .eq 17, 3) := by decide +kernel
set_option maxRecDepth 20000 in
theorem dX0_holders_21 : decode cX0_holders 21 = .ok (.aload_n 0, 1) := by decide +kernel
set_option maxRecDepth 20000 in
theorem dX0_holders_22 : decode cX0_holders 22 = .ok (.iload_n 1, 1) := by decide +kernel
set_option maxRecDepth 20000 in
theorem dX0_holders_23 : decode cX0_holders 23 = .ok (.iload 5, 2) := by decide +kernel
set_option maxRecDepth 20000 in
theorem dX0_holders_25 : decode cX0_holders 25 = .ok (.invokevirtual 46, 3) := by decide +kernel
set_option maxRecDepth 20000 in
theorem dX0_holders_28 : decode cX0_holders 28 = .ok (.iload_n 2, 1) := by decide +kernel
set_option maxRecDepth 20000 in
theorem dX0_holders_29 : decode cX0_holders 29 = .ok (.if_icmp .ne 6, 3) := by decide +kernel
set_option maxRecDepth 20000 in
theorem dX0_holders_32 : decode cX0_holders 32 = .ok (.iinc 4 1, 3) := by decide +kernel
set_option maxRecDepth 20000 in
theorem dX0_holders_35 : decode cX0_holders 35 = .ok (.iinc 5 1, 3) := by decide +kernel
set_option maxRecDepth 20000 in
theorem dX0_holders_38 : decode cX0_holders 38 = .ok (.goto (-32), 3) := by decide +kernel
set_option maxRecDepth 20000 in
theorem dX0_holders_41 : decode cX0_holders 41 = .ok (.iload 4, 2) := by decide +kernel
set_option maxRecDepth 20000 in
theorem dX0_holders_43 : decode cX0_holders 43 = .ok (.ireturn, 1) := by decide +kernel
def f_X0_holders_6 (N : Nat) (c_askers : Int32) (c_told : Nat → Int32) : Nat → Int32 → Int32 → Int32 → Int32 → Int32 → Option (Int32)
  | 0, _, _, _, _, _ => none
  | n + 1, v1, v2, v3, v4, v5 =>
    (if c_askers ≤ v5 then
      some v4
    else
      (if v5 = v3 then
        f_X0_holders_6 N c_askers c_told n v1 v2 v3 v4 (v5 + 1)
      else
        (f_X0_toldOf N c_told v1 v5).bind fun r3 =>
        (if r3 = v2 then
          f_X0_holders_6 N c_askers c_told n v1 v2 v3 (v4 + 1) (v5 + 1)
        else
          f_X0_holders_6 N c_askers c_told n v1 v2 v3 v4 (v5 + 1))))
set_option maxHeartbeats 4000000 in
set_option maxRecDepth 100000 in
theorem g_X0_holders_6 {κ : KC} {ω : KW} {A : Nat → Prop} {ad : Nat → Nat} {u_places : Int32} {u_age : Int32} {N : Nat} {c_askers : Int32} {c_told : Nat → Int32}  {res : Int32} : ∀ (n : Nat) {v1 : Int32} {v2 : Int32} {v3 : Int32} {v4 : Int32} {v5 : Int32}, f_X0_holders_6 N c_askers c_told n v1 v2 v3 v4 v5 = some res → GG mu_X0_holders κ ω A (QR κ ω A ad (some (.int res)) (w_X0_holders c_askers c_told u_places u_age)) ad 0 0 6 (w_X0_holders c_askers c_told u_places u_age) [some (.ref 0), some (.int v1), some (.int v2), some (.int v3), some (.int v4), some (.int v5)] [] := by
  intro n
  induction n with
  | zero => intro v1 v2 v3 v4 v5 hf; exact ob_0 hf
  | succ n ih =>
    intro v1 v2 v3 v4 v5 hf
    refine G_iload dX0_holders_6 rfl ?_
    refine G_aload_n dX0_holders_8 rfl rfl ?_
    refine G_get (v := .int c_askers) F_X0_24 dX0_holders_9 rfl rfl ?_
    refine G_icmp_ge 41 dX0_holders_12 (by decide) (fun h1 => ?_) (fun h1 => ?_)
    · replace hf := ob_t h1 hf
      refine G_iload dX0_holders_41 rfl ?_
      obtain rfl := os hf
      exact G_ireturn dX0_holders_43 rfl
    · replace hf := ob_f h1 hf
      refine G_iload dX0_holders_15 rfl ?_
      refine G_iload_n dX0_holders_17 rfl rfl ?_
      refine G_icmp_eq 35 dX0_holders_18 (by decide) (fun h2 => ?_) (fun h2 => ?_)
      · replace hf := ob_t h2 hf
        refine G_iinc 1 dX0_holders_35 (by decide) rfl (ltb rfl) ?_
        change GG _ _ _ _ _ _ _ _ _ _ [some (.ref 0), some (.int v1), some (.int v2), some (.int v3), some (.int v4), some (.int (v5 + 1))] _
        refine G_goto 6 dX0_holders_38 (by decide) ?_
        exact ih hf
      · replace hf := ob_f h2 hf
        refine G_aload_n dX0_holders_21 rfl rfl ?_
        refine G_iload_n dX0_holders_22 rfl rfl ?_
        refine G_iload dX0_holders_23 rfl ?_
        obtain ⟨r3, hc4, hf⟩ := ob hf
        refine G_callV (μ2 := mu_X0_toldOf) (As := [.int v1, .int v5]) (w2 := (w_X0_holders c_askers c_told u_places u_age)) (wc := (w_X0_toldOf c_told c_askers u_places u_age)) (wc2 := (w_X0_toldOf c_told c_askers u_places u_age)) (rest := []) (rv := [.int r3]) [0, 1] [1000, 1001, 1002] [] [0, 1] (c_X0_toldOf hc4) cw_X0_toldOf m_X0_46 dX0_holders_25 rfl ⟨leb rfl, leb rfl⟩ ⟨rfl, rfl⟩ rfl ⟨_, rfl, rfl⟩ (Fit.mk rfl rfl rfl) rfl (leb rfl) (ROsub.nil rfl rfl) rfl ?_
        change GG _ _ _ _ _ _ _ _ _ (w_X0_holders c_askers c_told u_places u_age) [some (.ref 0), some (.int v1), some (.int v2), some (.int v3), some (.int v4), some (.int v5)] [.int r3]
        refine G_iload_n dX0_holders_28 rfl rfl ?_
        refine G_icmp_ne 35 dX0_holders_29 (by decide) (fun h5 => ?_) (fun h5 => ?_)
        · replace hf := ob_f h5 hf
          refine G_iinc 1 dX0_holders_35 (by decide) rfl (ltb rfl) ?_
          change GG _ _ _ _ _ _ _ _ _ _ [some (.ref 0), some (.int v1), some (.int v2), some (.int v3), some (.int v4), some (.int (v5 + 1))] _
          refine G_goto 6 dX0_holders_38 (by decide) ?_
          exact ih hf
        · replace hf := ob_t h5 hf
          refine G_iinc 1 dX0_holders_32 (by decide) rfl (ltb rfl) ?_
          change GG _ _ _ _ _ _ _ _ _ _ [some (.ref 0), some (.int v1), some (.int v2), some (.int v3), some (.int (v4 + 1)), some (.int v5)] _
          refine G_iinc 1 dX0_holders_35 (by decide) rfl (ltb rfl) ?_
          change GG _ _ _ _ _ _ _ _ _ _ [some (.ref 0), some (.int v1), some (.int v2), some (.int v3), some (.int (v4 + 1)), some (.int (v5 + 1))] _
          refine G_goto 6 dX0_holders_38 (by decide) ?_
          exact ih hf
def f_X0_holders (N : Nat) (c_askers : Int32) (c_told : Nat → Int32) (a1 : Int32) (a2 : Int32) (a3 : Int32) : Option (Int32) :=
  f_X0_holders_6 N c_askers c_told N a1 a2 a3 0 0
set_option maxHeartbeats 4000000 in
set_option maxRecDepth 100000 in
theorem c_X0_holders {N : Nat} {c_askers : Int32} {c_told : Nat → Int32}  {u_places : Int32} {u_age : Int32} {a1 : Int32} {a2 : Int32} {a3 : Int32} {res : Int32} (hf : f_X0_holders N c_askers c_told a1 a2 a3 = some res) : Con mu_X0_holders [.ref 0, .int a1, .int a2, .int a3] (w_X0_holders c_askers c_told u_places u_age) (some (.int res)) (w_X0_holders c_askers c_told u_places u_age) := by
  refine Con.mk (show plainName RX0 = true by decide +kernel) (leb rfl) (fun κ ω A ad => ?_)
  change GG mu_X0_holders κ ω A (QR κ ω A ad (some (.int res)) (w_X0_holders c_askers c_told u_places u_age)) ad 0 0 0 (w_X0_holders c_askers c_told u_places u_age) [some (.ref 0), some (.int a1), some (.int a2), some (.int a3), none, none] []
  refine G_iconst 0 dX0_holders_0 (by decide) ?_
  refine G_istore dX0_holders_1 (ltb rfl) ?_
  change GG _ _ _ _ _ _ _ _ _ _ [some (.ref 0), some (.int a1), some (.int a2), some (.int a3), some (.int 0), none] _
  refine G_iconst 0 dX0_holders_3 (by decide) ?_
  refine G_istore dX0_holders_4 (ltb rfl) ?_
  change GG _ _ _ _ _ _ _ _ _ _ [some (.ref 0), some (.int a1), some (.int a2), some (.int a3), some (.int 0), some (.int 0)] _
  exact g_X0_holders_6 N hf
set_option maxRecDepth 20000 in
theorem dX0_seatBits_0 : decode cX0_seatBits 0 = .ok (.iconst 0, 1) := by decide +kernel
set_option maxRecDepth 20000 in
theorem dX0_seatBits_1 : decode cX0_seatBits 1 = .ok (.istore_n 1, 1) := by decide +kernel
set_option maxRecDepth 20000 in
theorem dX0_seatBits_2 : decode cX0_seatBits 2 = .ok (.iconst 0, 1) := by decide +kernel
set_option maxRecDepth 20000 in
theorem dX0_seatBits_3 : decode cX0_seatBits 3 = .ok (.istore_n 2, 1) := by decide +kernel
set_option maxRecDepth 20000 in
theorem dX0_seatBits_4 : decode cX0_seatBits 4 = .ok (.iload_n 2, 1) := by decide +kernel
set_option maxRecDepth 20000 in
theorem dX0_seatBits_5 : decode cX0_seatBits 5 = .ok (.aload_n 0, 1) := by decide +kernel
set_option maxRecDepth 20000 in
theorem dX0_seatBits_6 : decode cX0_seatBits 6 = .ok (.getfield 28, 3) := by decide +kernel
set_option maxRecDepth 20000 in
theorem dX0_seatBits_9 : decode cX0_seatBits 9 = .ok (.if_icmp .ge 22, 3) := by decide +kernel
set_option maxRecDepth 20000 in
theorem dX0_seatBits_12 : decode cX0_seatBits 12 = .ok (.iload_n 1, 1) := by decide +kernel
set_option maxRecDepth 20000 in
theorem dX0_seatBits_13 : decode cX0_seatBits 13 = .ok (.aload_n 0, 1) := by decide +kernel
set_option maxRecDepth 20000 in
theorem dX0_seatBits_14 : decode cX0_seatBits 14 = .ok (.getfield 9, 3) := by decide +kernel
set_option maxRecDepth 20000 in
theorem dX0_seatBits_17 : decode cX0_seatBits 17 = .ok (.iload_n 2, 1) := by decide +kernel
set_option maxRecDepth 20000 in
theorem dX0_seatBits_18 : decode cX0_seatBits 18 = .ok (.iaload, 1) := by decide +kernel
set_option maxRecDepth 20000 in
theorem dX0_seatBits_19 : decode cX0_seatBits 19 = .ok (.iconst 2, 1) := by decide +kernel
set_option maxRecDepth 20000 in
theorem dX0_seatBits_20 : decode cX0_seatBits 20 = .ok (.iload_n 2, 1) := by decide +kernel
set_option maxRecDepth 20000 in
theorem dX0_seatBits_21 : decode cX0_seatBits 21 = .ok (.imul, 1) := by decide +kernel
set_option maxRecDepth 20000 in
theorem dX0_seatBits_22 : decode cX0_seatBits 22 = .ok (.ishl, 1) := by decide +kernel
set_option maxRecDepth 20000 in
theorem dX0_seatBits_23 : decode cX0_seatBits 23 = .ok (.ior, 1) := by decide +kernel
set_option maxRecDepth 20000 in
theorem dX0_seatBits_24 : decode cX0_seatBits 24 = .ok (.istore_n 1, 1) := by decide +kernel
set_option maxRecDepth 20000 in
theorem dX0_seatBits_25 : decode cX0_seatBits 25 = .ok (.iinc 2 1, 3) := by decide +kernel
set_option maxRecDepth 20000 in
theorem dX0_seatBits_28 : decode cX0_seatBits 28 = .ok (.goto (-24), 3) := by decide +kernel
set_option maxRecDepth 20000 in
theorem dX0_seatBits_31 : decode cX0_seatBits 31 = .ok (.iload_n 1, 1) := by decide +kernel
set_option maxRecDepth 20000 in
theorem dX0_seatBits_32 : decode cX0_seatBits 32 = .ok (.ireturn, 1) := by decide +kernel
def f_X0_seatBits_4 (N : Nat) (c_places : Int32) (c_seats : Nat → Int32) : Nat → Int32 → Int32 → Option (Int32)
  | 0, _, _ => none
  | n + 1, v1, v2 =>
    (if c_places ≤ v2 then
      some v1
    else
      (rdI 6 c_seats v2).bind fun t2 =>
      f_X0_seatBits_4 N c_places c_seats n (v1 ||| (t2 <<< ((2 * v2) &&& 31))) (v2 + 1))
set_option maxHeartbeats 4000000 in
set_option maxRecDepth 100000 in
theorem g_X0_seatBits_4 {κ : KC} {ω : KW} {A : Nat → Prop} {ad : Nat → Nat} {u_askers : Int32} {u_age : Int32} {N : Nat} {c_places : Int32} {c_seats : Nat → Int32}  {res : Int32} : ∀ (n : Nat) {v1 : Int32} {v2 : Int32}, f_X0_seatBits_4 N c_places c_seats n v1 v2 = some res → GG mu_X0_seatBits κ ω A (QR κ ω A ad (some (.int res)) (w_X0_seatBits c_places c_seats u_askers u_age)) ad 0 0 4 (w_X0_seatBits c_places c_seats u_askers u_age) [some (.ref 0), some (.int v1), some (.int v2)] [] := by
  intro n
  induction n with
  | zero => intro v1 v2 hf; exact ob_0 hf
  | succ n ih =>
    intro v1 v2 hf
    refine G_iload_n dX0_seatBits_4 rfl rfl ?_
    refine G_aload_n dX0_seatBits_5 rfl rfl ?_
    refine G_get (v := .int c_places) F_X0_28 dX0_seatBits_6 rfl rfl ?_
    refine G_icmp_ge 31 dX0_seatBits_9 (by decide) (fun h1 => ?_) (fun h1 => ?_)
    · replace hf := ob_t h1 hf
      refine G_iload_n dX0_seatBits_31 rfl rfl ?_
      obtain rfl := os hf
      exact G_ireturn dX0_seatBits_32 rfl
    · replace hf := ob_f h1 hf
      refine G_iload_n dX0_seatBits_12 rfl rfl ?_
      refine G_aload_n dX0_seatBits_13 rfl rfl ?_
      refine G_get (v := .ref 1) F_X0_9 dX0_seatBits_14 rfl rfl ?_
      refine G_iload_n dX0_seatBits_17 rfl rfl ?_
      obtain ⟨t2, ht2, hf⟩ := ob hf
      refine G_iald dX0_seatBits_18 rfl ht2 ?_
      refine G_iconst 2 dX0_seatBits_19 (by decide) ?_
      refine G_iload_n dX0_seatBits_20 rfl rfl ?_
      refine G_imul dX0_seatBits_21 ?_
      refine G_ishl dX0_seatBits_22 ?_
      refine G_ior dX0_seatBits_23 ?_
      refine G_istore_n dX0_seatBits_24 rfl (ltb rfl) ?_
      change GG _ _ _ _ _ _ _ _ _ _ [some (.ref 0), some (.int (v1 ||| (t2 <<< ((2 * v2) &&& 31)))), some (.int v2)] _
      refine G_iinc 1 dX0_seatBits_25 (by decide) rfl (ltb rfl) ?_
      change GG _ _ _ _ _ _ _ _ _ _ [some (.ref 0), some (.int (v1 ||| (t2 <<< ((2 * v2) &&& 31)))), some (.int (v2 + 1))] _
      refine G_goto 4 dX0_seatBits_28 (by decide) ?_
      exact ih hf
def f_X0_seatBits (N : Nat) (c_places : Int32) (c_seats : Nat → Int32)  : Option (Int32) :=
  f_X0_seatBits_4 N c_places c_seats N 0 0
set_option maxHeartbeats 4000000 in
set_option maxRecDepth 100000 in
theorem c_X0_seatBits {N : Nat} {c_places : Int32} {c_seats : Nat → Int32}  {u_askers : Int32} {u_age : Int32}  {res : Int32} (hf : f_X0_seatBits N c_places c_seats = some res) : Con mu_X0_seatBits [.ref 0] (w_X0_seatBits c_places c_seats u_askers u_age) (some (.int res)) (w_X0_seatBits c_places c_seats u_askers u_age) := by
  refine Con.mk (show plainName RX0 = true by decide +kernel) (leb rfl) (fun κ ω A ad => ?_)
  change GG mu_X0_seatBits κ ω A (QR κ ω A ad (some (.int res)) (w_X0_seatBits c_places c_seats u_askers u_age)) ad 0 0 0 (w_X0_seatBits c_places c_seats u_askers u_age) [some (.ref 0), none, none] []
  refine G_iconst 0 dX0_seatBits_0 (by decide) ?_
  refine G_istore_n dX0_seatBits_1 rfl (ltb rfl) ?_
  change GG _ _ _ _ _ _ _ _ _ _ [some (.ref 0), some (.int 0), none] _
  refine G_iconst 0 dX0_seatBits_2 (by decide) ?_
  refine G_istore_n dX0_seatBits_3 rfl (ltb rfl) ?_
  change GG _ _ _ _ _ _ _ _ _ _ [some (.ref 0), some (.int 0), some (.int 0)] _
  exact g_X0_seatBits_4 N hf
set_option maxRecDepth 20000 in
theorem dX0_allSeats_0 : decode cX0_allSeats 0 = .ok (.iconst 0, 1) := by decide +kernel
set_option maxRecDepth 20000 in
theorem dX0_allSeats_1 : decode cX0_allSeats 1 = .ok (.istore_n 1, 1) := by decide +kernel
set_option maxRecDepth 20000 in
theorem dX0_allSeats_2 : decode cX0_allSeats 2 = .ok (.iconst 0, 1) := by decide +kernel
set_option maxRecDepth 20000 in
theorem dX0_allSeats_3 : decode cX0_allSeats 3 = .ok (.istore_n 2, 1) := by decide +kernel
set_option maxRecDepth 20000 in
theorem dX0_allSeats_4 : decode cX0_allSeats 4 = .ok (.iload_n 2, 1) := by decide +kernel
set_option maxRecDepth 20000 in
theorem dX0_allSeats_5 : decode cX0_allSeats 5 = .ok (.aload_n 0, 1) := by decide +kernel
set_option maxRecDepth 20000 in
theorem dX0_allSeats_6 : decode cX0_allSeats 6 = .ok (.getfield 28, 3) := by decide +kernel
set_option maxRecDepth 20000 in
theorem dX0_allSeats_9 : decode cX0_allSeats 9 = .ok (.if_icmp .ge 18, 3) := by decide +kernel
set_option maxRecDepth 20000 in
theorem dX0_allSeats_12 : decode cX0_allSeats 12 = .ok (.iload_n 1, 1) := by decide +kernel
set_option maxRecDepth 20000 in
theorem dX0_allSeats_13 : decode cX0_allSeats 13 = .ok (.aload_n 0, 1) := by decide +kernel
set_option maxRecDepth 20000 in
theorem dX0_allSeats_14 : decode cX0_allSeats 14 = .ok (.getfield 9, 3) := by decide +kernel
set_option maxRecDepth 20000 in
theorem dX0_allSeats_17 : decode cX0_allSeats 17 = .ok (.iload_n 2, 1) := by decide +kernel
set_option maxRecDepth 20000 in
theorem dX0_allSeats_18 : decode cX0_allSeats 18 = .ok (.iaload, 1) := by decide +kernel
set_option maxRecDepth 20000 in
theorem dX0_allSeats_19 : decode cX0_allSeats 19 = .ok (.iadd, 1) := by decide +kernel
set_option maxRecDepth 20000 in
theorem dX0_allSeats_20 : decode cX0_allSeats 20 = .ok (.istore_n 1, 1) := by decide +kernel
set_option maxRecDepth 20000 in
theorem dX0_allSeats_21 : decode cX0_allSeats 21 = .ok (.iinc 2 1, 3) := by decide +kernel
set_option maxRecDepth 20000 in
theorem dX0_allSeats_24 : decode cX0_allSeats 24 = .ok (.goto (-20), 3) := by decide +kernel
set_option maxRecDepth 20000 in
theorem dX0_allSeats_27 : decode cX0_allSeats 27 = .ok (.iload_n 1, 1) := by decide +kernel
set_option maxRecDepth 20000 in
theorem dX0_allSeats_28 : decode cX0_allSeats 28 = .ok (.ireturn, 1) := by decide +kernel
def f_X0_allSeats_4 (N : Nat) (c_places : Int32) (c_seats : Nat → Int32) : Nat → Int32 → Int32 → Option (Int32)
  | 0, _, _ => none
  | n + 1, v1, v2 =>
    (if c_places ≤ v2 then
      some v1
    else
      (rdI 6 c_seats v2).bind fun t2 =>
      f_X0_allSeats_4 N c_places c_seats n (v1 + t2) (v2 + 1))
set_option maxHeartbeats 4000000 in
set_option maxRecDepth 100000 in
theorem g_X0_allSeats_4 {κ : KC} {ω : KW} {A : Nat → Prop} {ad : Nat → Nat} {u_askers : Int32} {u_age : Int32} {N : Nat} {c_places : Int32} {c_seats : Nat → Int32}  {res : Int32} : ∀ (n : Nat) {v1 : Int32} {v2 : Int32}, f_X0_allSeats_4 N c_places c_seats n v1 v2 = some res → GG mu_X0_allSeats κ ω A (QR κ ω A ad (some (.int res)) (w_X0_allSeats c_places c_seats u_askers u_age)) ad 0 0 4 (w_X0_allSeats c_places c_seats u_askers u_age) [some (.ref 0), some (.int v1), some (.int v2)] [] := by
  intro n
  induction n with
  | zero => intro v1 v2 hf; exact ob_0 hf
  | succ n ih =>
    intro v1 v2 hf
    refine G_iload_n dX0_allSeats_4 rfl rfl ?_
    refine G_aload_n dX0_allSeats_5 rfl rfl ?_
    refine G_get (v := .int c_places) F_X0_28 dX0_allSeats_6 rfl rfl ?_
    refine G_icmp_ge 27 dX0_allSeats_9 (by decide) (fun h1 => ?_) (fun h1 => ?_)
    · replace hf := ob_t h1 hf
      refine G_iload_n dX0_allSeats_27 rfl rfl ?_
      obtain rfl := os hf
      exact G_ireturn dX0_allSeats_28 rfl
    · replace hf := ob_f h1 hf
      refine G_iload_n dX0_allSeats_12 rfl rfl ?_
      refine G_aload_n dX0_allSeats_13 rfl rfl ?_
      refine G_get (v := .ref 1) F_X0_9 dX0_allSeats_14 rfl rfl ?_
      refine G_iload_n dX0_allSeats_17 rfl rfl ?_
      obtain ⟨t2, ht2, hf⟩ := ob hf
      refine G_iald dX0_allSeats_18 rfl ht2 ?_
      refine G_iadd dX0_allSeats_19 ?_
      refine G_istore_n dX0_allSeats_20 rfl (ltb rfl) ?_
      change GG _ _ _ _ _ _ _ _ _ _ [some (.ref 0), some (.int (v1 + t2)), some (.int v2)] _
      refine G_iinc 1 dX0_allSeats_21 (by decide) rfl (ltb rfl) ?_
      change GG _ _ _ _ _ _ _ _ _ _ [some (.ref 0), some (.int (v1 + t2)), some (.int (v2 + 1))] _
      refine G_goto 4 dX0_allSeats_24 (by decide) ?_
      exact ih hf
def f_X0_allSeats (N : Nat) (c_places : Int32) (c_seats : Nat → Int32)  : Option (Int32) :=
  f_X0_allSeats_4 N c_places c_seats N 0 0
set_option maxHeartbeats 4000000 in
set_option maxRecDepth 100000 in
theorem c_X0_allSeats {N : Nat} {c_places : Int32} {c_seats : Nat → Int32}  {u_askers : Int32} {u_age : Int32}  {res : Int32} (hf : f_X0_allSeats N c_places c_seats = some res) : Con mu_X0_allSeats [.ref 0] (w_X0_allSeats c_places c_seats u_askers u_age) (some (.int res)) (w_X0_allSeats c_places c_seats u_askers u_age) := by
  refine Con.mk (show plainName RX0 = true by decide +kernel) (leb rfl) (fun κ ω A ad => ?_)
  change GG mu_X0_allSeats κ ω A (QR κ ω A ad (some (.int res)) (w_X0_allSeats c_places c_seats u_askers u_age)) ad 0 0 0 (w_X0_allSeats c_places c_seats u_askers u_age) [some (.ref 0), none, none] []
  refine G_iconst 0 dX0_allSeats_0 (by decide) ?_
  refine G_istore_n dX0_allSeats_1 rfl (ltb rfl) ?_
  change GG _ _ _ _ _ _ _ _ _ _ [some (.ref 0), some (.int 0), none] _
  refine G_iconst 0 dX0_allSeats_2 (by decide) ?_
  refine G_istore_n dX0_allSeats_3 rfl (ltb rfl) ?_
  change GG _ _ _ _ _ _ _ _ _ _ [some (.ref 0), some (.int 0), some (.int 0)] _
  exact g_X0_allSeats_4 N hf
set_option maxRecDepth 20000 in
theorem dX0_allWishes_0 : decode cX0_allWishes 0 = .ok (.iconst 0, 1) := by decide +kernel
set_option maxRecDepth 20000 in
theorem dX0_allWishes_1 : decode cX0_allWishes 1 = .ok (.istore_n 1, 1) := by decide +kernel
set_option maxRecDepth 20000 in
theorem dX0_allWishes_2 : decode cX0_allWishes 2 = .ok (.iconst 0, 1) := by decide +kernel
set_option maxRecDepth 20000 in
theorem dX0_allWishes_3 : decode cX0_allWishes 3 = .ok (.istore_n 2, 1) := by decide +kernel
set_option maxRecDepth 20000 in
theorem dX0_allWishes_4 : decode cX0_allWishes 4 = .ok (.iload_n 2, 1) := by decide +kernel
set_option maxRecDepth 20000 in
theorem dX0_allWishes_5 : decode cX0_allWishes 5 = .ok (.bipush 48, 2) := by decide +kernel
set_option maxRecDepth 20000 in
theorem dX0_allWishes_7 : decode cX0_allWishes 7 = .ok (.if_icmp .ge 21, 3) := by decide +kernel
set_option maxRecDepth 20000 in
theorem dX0_allWishes_10 : decode cX0_allWishes 10 = .ok (.aload_n 0, 1) := by decide +kernel
set_option maxRecDepth 20000 in
theorem dX0_allWishes_11 : decode cX0_allWishes 11 = .ok (.getfield 15, 3) := by decide +kernel
set_option maxRecDepth 20000 in
theorem dX0_allWishes_14 : decode cX0_allWishes 14 = .ok (.iload_n 2, 1) := by decide +kernel
set_option maxRecDepth 20000 in
theorem dX0_allWishes_15 : decode cX0_allWishes 15 = .ok (.iaload, 1) := by decide +kernel
set_option maxRecDepth 20000 in
theorem dX0_allWishes_16 : decode cX0_allWishes 16 = .ok (.ifCond .le 6, 3) := by decide +kernel
set_option maxRecDepth 20000 in
theorem dX0_allWishes_19 : decode cX0_allWishes 19 = .ok (.iinc 1 1, 3) := by decide +kernel
set_option maxRecDepth 20000 in
theorem dX0_allWishes_22 : decode cX0_allWishes 22 = .ok (.iinc 2 1, 3) := by decide +kernel
set_option maxRecDepth 20000 in
theorem dX0_allWishes_25 : decode cX0_allWishes 25 = .ok (.goto (-21), 3) := by decide +kernel
set_option maxRecDepth 20000 in
theorem dX0_allWishes_28 : decode cX0_allWishes 28 = .ok (.iload_n 1, 1) := by decide +kernel
set_option maxRecDepth 20000 in
theorem dX0_allWishes_29 : decode cX0_allWishes 29 = .ok (.ireturn, 1) := by decide +kernel
def f_X0_allWishes_4 (N : Nat) (c_wishes : Nat → Int32) : Nat → Int32 → Int32 → Option (Int32)
  | 0, _, _ => none
  | n + 1, v1, v2 =>
    (if 48 ≤ v2 then
      some v1
    else
      (rdI 48 c_wishes v2).bind fun t2 =>
      (if t2 ≤ 0 then
        f_X0_allWishes_4 N c_wishes n v1 (v2 + 1)
      else
        f_X0_allWishes_4 N c_wishes n (v1 + 1) (v2 + 1)))
set_option maxHeartbeats 4000000 in
set_option maxRecDepth 100000 in
theorem g_X0_allWishes_4 {κ : KC} {ω : KW} {A : Nat → Prop} {ad : Nat → Nat} {u_askers : Int32} {u_places : Int32} {u_age : Int32} {N : Nat} {c_wishes : Nat → Int32}  {res : Int32} : ∀ (n : Nat) {v1 : Int32} {v2 : Int32}, f_X0_allWishes_4 N c_wishes n v1 v2 = some res → GG mu_X0_allWishes κ ω A (QR κ ω A ad (some (.int res)) (w_X0_allWishes c_wishes u_askers u_places u_age)) ad 0 0 4 (w_X0_allWishes c_wishes u_askers u_places u_age) [some (.ref 0), some (.int v1), some (.int v2)] [] := by
  intro n
  induction n with
  | zero => intro v1 v2 hf; exact ob_0 hf
  | succ n ih =>
    intro v1 v2 hf
    refine G_iload_n dX0_allWishes_4 rfl rfl ?_
    refine G_bipush 48 dX0_allWishes_5 (by decide) ?_
    refine G_icmp_ge 28 dX0_allWishes_7 (by decide) (fun h1 => ?_) (fun h1 => ?_)
    · replace hf := ob_t h1 hf
      refine G_iload_n dX0_allWishes_28 rfl rfl ?_
      obtain rfl := os hf
      exact G_ireturn dX0_allWishes_29 rfl
    · replace hf := ob_f h1 hf
      refine G_aload_n dX0_allWishes_10 rfl rfl ?_
      refine G_get (v := .ref 1) F_X0_15 dX0_allWishes_11 rfl rfl ?_
      refine G_iload_n dX0_allWishes_14 rfl rfl ?_
      obtain ⟨t2, ht2, hf⟩ := ob hf
      refine G_iald dX0_allWishes_15 rfl ht2 ?_
      refine G_if_le 22 dX0_allWishes_16 (by decide) (fun h3 => ?_) (fun h3 => ?_)
      · replace hf := ob_t h3 hf
        refine G_iinc 1 dX0_allWishes_22 (by decide) rfl (ltb rfl) ?_
        change GG _ _ _ _ _ _ _ _ _ _ [some (.ref 0), some (.int v1), some (.int (v2 + 1))] _
        refine G_goto 4 dX0_allWishes_25 (by decide) ?_
        exact ih hf
      · replace hf := ob_f h3 hf
        refine G_iinc 1 dX0_allWishes_19 (by decide) rfl (ltb rfl) ?_
        change GG _ _ _ _ _ _ _ _ _ _ [some (.ref 0), some (.int (v1 + 1)), some (.int v2)] _
        refine G_iinc 1 dX0_allWishes_22 (by decide) rfl (ltb rfl) ?_
        change GG _ _ _ _ _ _ _ _ _ _ [some (.ref 0), some (.int (v1 + 1)), some (.int (v2 + 1))] _
        refine G_goto 4 dX0_allWishes_25 (by decide) ?_
        exact ih hf
def f_X0_allWishes (N : Nat) (c_wishes : Nat → Int32)  : Option (Int32) :=
  f_X0_allWishes_4 N c_wishes N 0 0
set_option maxHeartbeats 4000000 in
set_option maxRecDepth 100000 in
theorem c_X0_allWishes {N : Nat} {c_wishes : Nat → Int32}  {u_askers : Int32} {u_places : Int32} {u_age : Int32}  {res : Int32} (hf : f_X0_allWishes N c_wishes = some res) : Con mu_X0_allWishes [.ref 0] (w_X0_allWishes c_wishes u_askers u_places u_age) (some (.int res)) (w_X0_allWishes c_wishes u_askers u_places u_age) := by
  refine Con.mk (show plainName RX0 = true by decide +kernel) (leb rfl) (fun κ ω A ad => ?_)
  change GG mu_X0_allWishes κ ω A (QR κ ω A ad (some (.int res)) (w_X0_allWishes c_wishes u_askers u_places u_age)) ad 0 0 0 (w_X0_allWishes c_wishes u_askers u_places u_age) [some (.ref 0), none, none] []
  refine G_iconst 0 dX0_allWishes_0 (by decide) ?_
  refine G_istore_n dX0_allWishes_1 rfl (ltb rfl) ?_
  change GG _ _ _ _ _ _ _ _ _ _ [some (.ref 0), some (.int 0), none] _
  refine G_iconst 0 dX0_allWishes_2 (by decide) ?_
  refine G_istore_n dX0_allWishes_3 rfl (ltb rfl) ?_
  change GG _ _ _ _ _ _ _ _ _ _ [some (.ref 0), some (.int 0), some (.int 0)] _
  exact g_X0_allWishes_4 N hf
set_option maxRecDepth 20000 in
theorem dX0_digestOn_0 : decode cX0_digestOn 0 = .ok (.lload_n 1, 1) := by decide +kernel
set_option maxRecDepth 20000 in
theorem dX0_digestOn_1 : decode cX0_digestOn 1 = .ok (.lstore_n 3, 1) := by decide +kernel
set_option maxRecDepth 20000 in
theorem dX0_digestOn_2 : decode cX0_digestOn 2 = .ok (.iconst 0, 1) := by decide +kernel
set_option maxRecDepth 20000 in
theorem dX0_digestOn_3 : decode cX0_digestOn 3 = .ok (.istore 5, 2) := by decide +kernel
set_option maxRecDepth 20000 in
theorem dX0_digestOn_5 : decode cX0_digestOn 5 = .ok (.iload 5, 2) := by decide +kernel
set_option maxRecDepth 20000 in
theorem dX0_digestOn_7 : decode cX0_digestOn 7 = .ok (.aload_n 0, 1) := by decide +kernel
set_option maxRecDepth 20000 in
theorem dX0_digestOn_8 : decode cX0_digestOn 8 = .ok (.getfield 28, 3) := by decide +kernel
set_option maxRecDepth 20000 in
theorem dX0_digestOn_11 : decode cX0_digestOn 11 = .ok (.if_icmp .ge 24, 3) := by decide +kernel
set_option maxRecDepth 20000 in
theorem dX0_digestOn_14 : decode cX0_digestOn 14 = .ok (.ldc2_w 49, 3) := by decide +kernel
set_option maxRecDepth 20000 in
theorem dX0_digestOn_17 : decode cX0_digestOn 17 = .ok (.lload_n 3, 1) := by decide +kernel
set_option maxRecDepth 20000 in
theorem dX0_digestOn_18 : decode cX0_digestOn 18 = .ok (.lmul, 1) := by decide +kernel
set_option maxRecDepth 20000 in
theorem dX0_digestOn_19 : decode cX0_digestOn 19 = .ok (.aload_n 0, 1) := by decide +kernel
set_option maxRecDepth 20000 in
theorem dX0_digestOn_20 : decode cX0_digestOn 20 = .ok (.getfield 9, 3) := by decide +kernel
set_option maxRecDepth 20000 in
theorem dX0_digestOn_23 : decode cX0_digestOn 23 = .ok (.iload 5, 2) := by decide +kernel
set_option maxRecDepth 20000 in
theorem dX0_digestOn_25 : decode cX0_digestOn 25 = .ok (.iaload, 1) := by decide +kernel
set_option maxRecDepth 20000 in
theorem dX0_digestOn_26 : decode cX0_digestOn 26 = .ok (.i2l, 1) := by decide +kernel
set_option maxRecDepth 20000 in
theorem dX0_digestOn_27 : decode cX0_digestOn 27 = .ok (.ladd, 1) := by decide +kernel
set_option maxRecDepth 20000 in
theorem dX0_digestOn_28 : decode cX0_digestOn 28 = .ok (.lstore_n 3, 1) := by decide +kernel
set_option maxRecDepth 20000 in
theorem dX0_digestOn_29 : decode cX0_digestOn 29 = .ok (.iinc 5 1, 3) := by decide +kernel
set_option maxRecDepth 20000 in
theorem dX0_digestOn_32 : decode cX0_digestOn 32 = .ok (.goto (-27), 3) := by decide +kernel
set_option maxRecDepth 20000 in
theorem dX0_digestOn_35 : decode cX0_digestOn 35 = .ok (.iconst 0, 1) := by decide +kernel
set_option maxRecDepth 20000 in
theorem dX0_digestOn_36 : decode cX0_digestOn 36 = .ok (.istore 5, 2) := by decide +kernel
set_option maxRecDepth 20000 in
theorem dX0_digestOn_38 : decode cX0_digestOn 38 = .ok (.iload 5, 2) := by decide +kernel
set_option maxRecDepth 20000 in
theorem dX0_digestOn_40 : decode cX0_digestOn 40 = .ok (.aload_n 0, 1) := by decide +kernel
set_option maxRecDepth 20000 in
theorem dX0_digestOn_41 : decode cX0_digestOn 41 = .ok (.getfield 24, 3) := by decide +kernel
set_option maxRecDepth 20000 in
theorem dX0_digestOn_44 : decode cX0_digestOn 44 = .ok (.if_icmp .ge 43, 3) := by decide +kernel
set_option maxRecDepth 20000 in
theorem dX0_digestOn_47 : decode cX0_digestOn 47 = .ok (.iconst 0, 1) := by decide +kernel
set_option maxRecDepth 20000 in
theorem dX0_digestOn_48 : decode cX0_digestOn 48 = .ok (.istore 6, 2) := by decide +kernel
set_option maxRecDepth 20000 in
theorem dX0_digestOn_50 : decode cX0_digestOn 50 = .ok (.iload 6, 2) := by decide +kernel
set_option maxRecDepth 20000 in
theorem dX0_digestOn_52 : decode cX0_digestOn 52 = .ok (.aload_n 0, 1) := by decide +kernel
set_option maxRecDepth 20000 in
theorem dX0_digestOn_53 : decode cX0_digestOn 53 = .ok (.getfield 28, 3) := by decide +kernel
set_option maxRecDepth 20000 in
theorem dX0_digestOn_56 : decode cX0_digestOn 56 = .ok (.if_icmp .ge 25, 3) := by decide +kernel
set_option maxRecDepth 20000 in
theorem dX0_digestOn_59 : decode cX0_digestOn 59 = .ok (.ldc2_w 49, 3) := by decide +kernel
set_option maxRecDepth 20000 in
theorem dX0_digestOn_62 : decode cX0_digestOn 62 = .ok (.lload_n 3, 1) := by decide +kernel
set_option maxRecDepth 20000 in
theorem dX0_digestOn_63 : decode cX0_digestOn 63 = .ok (.lmul, 1) := by decide +kernel
set_option maxRecDepth 20000 in
theorem dX0_digestOn_64 : decode cX0_digestOn 64 = .ok (.aload_n 0, 1) := by decide +kernel
set_option maxRecDepth 20000 in
theorem dX0_digestOn_65 : decode cX0_digestOn 65 = .ok (.iload 5, 2) := by decide +kernel
set_option maxRecDepth 20000 in
theorem dX0_digestOn_67 : decode cX0_digestOn 67 = .ok (.iload 6, 2) := by decide +kernel
set_option maxRecDepth 20000 in
theorem dX0_digestOn_69 : decode cX0_digestOn 69 = .ok (.invokevirtual 51, 3) := by decide +kernel
set_option maxRecDepth 20000 in
theorem dX0_digestOn_72 : decode cX0_digestOn 72 = .ok (.i2l, 1) := by decide +kernel
set_option maxRecDepth 20000 in
theorem dX0_digestOn_73 : decode cX0_digestOn 73 = .ok (.ladd, 1) := by decide +kernel
set_option maxRecDepth 20000 in
theorem dX0_digestOn_74 : decode cX0_digestOn 74 = .ok (.lstore_n 3, 1) := by decide +kernel
set_option maxRecDepth 20000 in
theorem dX0_digestOn_75 : decode cX0_digestOn 75 = .ok (.iinc 6 1, 3) := by decide +kernel
set_option maxRecDepth 20000 in
theorem dX0_digestOn_78 : decode cX0_digestOn 78 = .ok (.goto (-28), 3) := by decide +kernel
set_option maxRecDepth 20000 in
theorem dX0_digestOn_81 : decode cX0_digestOn 81 = .ok (.iinc 5 1, 3) := by decide +kernel
set_option maxRecDepth 20000 in
theorem dX0_digestOn_84 : decode cX0_digestOn 84 = .ok (.goto (-46), 3) := by decide +kernel
set_option maxRecDepth 20000 in
theorem dX0_digestOn_87 : decode cX0_digestOn 87 = .ok (.iconst 0, 1) := by decide +kernel
set_option maxRecDepth 20000 in
theorem dX0_digestOn_88 : decode cX0_digestOn 88 = .ok (.istore 5, 2) := by decide +kernel
set_option maxRecDepth 20000 in
theorem dX0_digestOn_90 : decode cX0_digestOn 90 = .ok (.iload 5, 2) := by decide +kernel
set_option maxRecDepth 20000 in
theorem dX0_digestOn_92 : decode cX0_digestOn 92 = .ok (.iconst 4, 1) := by decide +kernel
set_option maxRecDepth 20000 in
theorem dX0_digestOn_93 : decode cX0_digestOn 93 = .ok (.if_icmp .ge 43, 3) := by decide +kernel
set_option maxRecDepth 20000 in
theorem dX0_digestOn_96 : decode cX0_digestOn 96 = .ok (.iconst 0, 1) := by decide +kernel
set_option maxRecDepth 20000 in
theorem dX0_digestOn_97 : decode cX0_digestOn 97 = .ok (.istore 6, 2) := by decide +kernel
set_option maxRecDepth 20000 in
theorem dX0_digestOn_99 : decode cX0_digestOn 99 = .ok (.iload 6, 2) := by decide +kernel
set_option maxRecDepth 20000 in
theorem dX0_digestOn_101 : decode cX0_digestOn 101 = .ok (.aload_n 0, 1) := by decide +kernel
set_option maxRecDepth 20000 in
theorem dX0_digestOn_102 : decode cX0_digestOn 102 = .ok (.getfield 24, 3) := by decide +kernel
set_option maxRecDepth 20000 in
theorem dX0_digestOn_105 : decode cX0_digestOn 105 = .ok (.if_icmp .ge 25, 3) := by decide +kernel
set_option maxRecDepth 20000 in
theorem dX0_digestOn_108 : decode cX0_digestOn 108 = .ok (.ldc2_w 49, 3) := by decide +kernel
set_option maxRecDepth 20000 in
theorem dX0_digestOn_111 : decode cX0_digestOn 111 = .ok (.lload_n 3, 1) := by decide +kernel
set_option maxRecDepth 20000 in
theorem dX0_digestOn_112 : decode cX0_digestOn 112 = .ok (.lmul, 1) := by decide +kernel
set_option maxRecDepth 20000 in
theorem dX0_digestOn_113 : decode cX0_digestOn 113 = .ok (.aload_n 0, 1) := by decide +kernel
set_option maxRecDepth 20000 in
theorem dX0_digestOn_114 : decode cX0_digestOn 114 = .ok (.iload 5, 2) := by decide +kernel
set_option maxRecDepth 20000 in
theorem dX0_digestOn_116 : decode cX0_digestOn 116 = .ok (.iload 6, 2) := by decide +kernel
set_option maxRecDepth 20000 in
theorem dX0_digestOn_118 : decode cX0_digestOn 118 = .ok (.invokevirtual 46, 3) := by decide +kernel
set_option maxRecDepth 20000 in
theorem dX0_digestOn_121 : decode cX0_digestOn 121 = .ok (.i2l, 1) := by decide +kernel
set_option maxRecDepth 20000 in
theorem dX0_digestOn_122 : decode cX0_digestOn 122 = .ok (.ladd, 1) := by decide +kernel
set_option maxRecDepth 20000 in
theorem dX0_digestOn_123 : decode cX0_digestOn 123 = .ok (.lstore_n 3, 1) := by decide +kernel
set_option maxRecDepth 20000 in
theorem dX0_digestOn_124 : decode cX0_digestOn 124 = .ok (.iinc 6 1, 3) := by decide +kernel
set_option maxRecDepth 20000 in
theorem dX0_digestOn_127 : decode cX0_digestOn 127 = .ok (.goto (-28), 3) := by decide +kernel
set_option maxRecDepth 20000 in
theorem dX0_digestOn_130 : decode cX0_digestOn 130 = .ok (.iinc 5 1, 3) := by decide +kernel
set_option maxRecDepth 20000 in
theorem dX0_digestOn_133 : decode cX0_digestOn 133 = .ok (.goto (-43), 3) := by decide +kernel
set_option maxRecDepth 20000 in
theorem dX0_digestOn_136 : decode cX0_digestOn 136 = .ok (.lload_n 3, 1) := by decide +kernel
set_option maxRecDepth 20000 in
theorem dX0_digestOn_137 : decode cX0_digestOn 137 = .ok (.lreturn, 1) := by decide +kernel
def f_X0_digestOn_99 (N : Nat) (c_askers : Int32) (c_places : Int32) (c_seats : Nat → Int32) (c_told : Nat → Int32) (c_wishes : Nat → Int32) (k90 : Int64 → Int32 → Option (Int64)) : Nat → Int64 → Int32 → Int32 → Option (Int64)
  | 0, _, _, _ => none
  | n + 1, v3, v5, v6 =>
    (if c_askers ≤ v6 then
      k90 v3 (v5 + 1)
    else
      (f_X0_toldOf N c_told v5 v6).bind fun r2 =>
      f_X0_digestOn_99 N c_askers c_places c_seats c_told c_wishes k90 n ((31 * v3) + r2.toInt64) v5 (v6 + 1))
set_option maxHeartbeats 4000000 in
set_option maxRecDepth 100000 in
theorem g_X0_digestOn_99 {κ : KC} {ω : KW} {A : Nat → Prop} {ad : Nat → Nat} {u_age : Int32} {N : Nat} {c_askers : Int32} {c_places : Int32} {c_seats : Nat → Int32} {c_told : Nat → Int32} {c_wishes : Nat → Int32}  {k90 : Int64 → Int32 → Option (Int64)} {res : Int64} (hk90 : ∀ {v3 : Int64} {v5 : Int32}, k90 v3 v5 = some res → GG mu_X0_digestOn κ ω A (QR κ ω A ad (some (.long res)) (w_X0_digestOn c_askers c_places c_seats c_told c_wishes u_age)) ad 0 0 90 (w_X0_digestOn c_askers c_places c_seats c_told c_wishes u_age) [some (.ref 0), none, none, some (.long v3), none, some (.int v5), none] []) : ∀ (n : Nat) {v3 : Int64} {v5 : Int32} {v6 : Int32}, f_X0_digestOn_99 N c_askers c_places c_seats c_told c_wishes k90 n v3 v5 v6 = some res → GG mu_X0_digestOn κ ω A (QR κ ω A ad (some (.long res)) (w_X0_digestOn c_askers c_places c_seats c_told c_wishes u_age)) ad 0 0 99 (w_X0_digestOn c_askers c_places c_seats c_told c_wishes u_age) [some (.ref 0), none, none, some (.long v3), none, some (.int v5), some (.int v6)] [] := by
  intro n
  induction n with
  | zero => intro v3 v5 v6 hf; exact ob_0 hf
  | succ n ih =>
    intro v3 v5 v6 hf
    refine G_iload dX0_digestOn_99 rfl ?_
    refine G_aload_n dX0_digestOn_101 rfl rfl ?_
    refine G_get (v := .int c_askers) F_X0_24 dX0_digestOn_102 rfl rfl ?_
    refine G_icmp_ge 130 dX0_digestOn_105 (by decide) (fun h1 => ?_) (fun h1 => ?_)
    · replace hf := ob_t h1 hf
      refine G_iinc 1 dX0_digestOn_130 (by decide) rfl (ltb rfl) ?_
      change GG _ _ _ _ _ _ _ _ _ _ [some (.ref 0), none, none, some (.long v3), none, some (.int (v5 + 1)), some (.int v6)] _
      refine G_goto 90 dX0_digestOn_133 (by decide) ?_
      refine GG.sb (lv2 := [some (.ref 0), none, none, some (.long v3), none, some (.int (v5 + 1)), none]) ?_ (lvS_v rfl (lvS_n (lvS_n (lvS_v rfl (lvS_n (lvS_v rfl (lvS_n (lvS_e))))))))
      exact hk90 hf
    · replace hf := ob_f h1 hf
      refine G_ldc2 (v := 31) dX0_digestOn_108 k_X0_49 ?_
      refine G_lload_n dX0_digestOn_111 rfl rfl ?_
      refine G_lmul dX0_digestOn_112 ?_
      refine G_aload_n dX0_digestOn_113 rfl rfl ?_
      refine G_iload dX0_digestOn_114 rfl ?_
      refine G_iload dX0_digestOn_116 rfl ?_
      obtain ⟨r2, hc3, hf⟩ := ob hf
      refine G_callV (μ2 := mu_X0_toldOf) (As := [.int v5, .int v6]) (w2 := (w_X0_digestOn c_askers c_places c_seats c_told c_wishes u_age)) (wc := (w_X0_toldOf c_told c_askers c_places u_age)) (wc2 := (w_X0_toldOf c_told c_askers c_places u_age)) (rest := [.long (31 * v3)]) (rv := [.int r2]) [0, 2] [1, 3, 1000] [1, 3] [2, 0, 3, 1] (c_X0_toldOf hc3) cw_X0_toldOf m_X0_46 dX0_digestOn_118 rfl ⟨leb rfl, leb rfl⟩ ⟨rfl, rfl⟩ rfl ⟨_, rfl, rfl⟩ (Fit.mk rfl rfl rfl) rfl (leb rfl) (ROsub.nil rfl rfl) rfl ?_
      change GG _ _ _ _ _ _ _ _ _ (w_X0_digestOn c_askers c_places c_seats c_told c_wishes u_age) [some (.ref 0), none, none, some (.long v3), none, some (.int v5), some (.int v6)] [.int r2, .long (31 * v3)]
      refine G_i2l dX0_digestOn_121 ?_
      refine G_ladd dX0_digestOn_122 ?_
      refine G_lstore_n dX0_digestOn_123 rfl (ltb rfl) ?_
      change GG _ _ _ _ _ _ _ _ _ _ [some (.ref 0), none, none, some (.long ((31 * v3) + r2.toInt64)), none, some (.int v5), some (.int v6)] _
      refine G_iinc 1 dX0_digestOn_124 (by decide) rfl (ltb rfl) ?_
      change GG _ _ _ _ _ _ _ _ _ _ [some (.ref 0), none, none, some (.long ((31 * v3) + r2.toInt64)), none, some (.int v5), some (.int (v6 + 1))] _
      refine G_goto 99 dX0_digestOn_127 (by decide) ?_
      exact ih hf
def f_X0_digestOn_90 (N : Nat) (c_askers : Int32) (c_places : Int32) (c_seats : Nat → Int32) (c_told : Nat → Int32) (c_wishes : Nat → Int32) : Nat → Int64 → Int32 → Option (Int64)
  | 0, _, _ => none
  | n + 1, v3, v5 =>
    (if 4 ≤ v5 then
      some v3
    else
      f_X0_digestOn_99 N c_askers c_places c_seats c_told c_wishes (f_X0_digestOn_90 N c_askers c_places c_seats c_told c_wishes n) N v3 v5 0)
set_option maxHeartbeats 4000000 in
set_option maxRecDepth 100000 in
theorem g_X0_digestOn_90 {κ : KC} {ω : KW} {A : Nat → Prop} {ad : Nat → Nat} {u_age : Int32} {N : Nat} {c_askers : Int32} {c_places : Int32} {c_seats : Nat → Int32} {c_told : Nat → Int32} {c_wishes : Nat → Int32}  {res : Int64} : ∀ (n : Nat) {v3 : Int64} {v5 : Int32}, f_X0_digestOn_90 N c_askers c_places c_seats c_told c_wishes n v3 v5 = some res → GG mu_X0_digestOn κ ω A (QR κ ω A ad (some (.long res)) (w_X0_digestOn c_askers c_places c_seats c_told c_wishes u_age)) ad 0 0 90 (w_X0_digestOn c_askers c_places c_seats c_told c_wishes u_age) [some (.ref 0), none, none, some (.long v3), none, some (.int v5), none] [] := by
  intro n
  induction n with
  | zero => intro v3 v5 hf; exact ob_0 hf
  | succ n ih =>
    intro v3 v5 hf
    refine G_iload dX0_digestOn_90 rfl ?_
    refine G_iconst 4 dX0_digestOn_92 (by decide) ?_
    refine G_icmp_ge 136 dX0_digestOn_93 (by decide) (fun h1 => ?_) (fun h1 => ?_)
    · replace hf := ob_t h1 hf
      refine G_lload_n dX0_digestOn_136 rfl rfl ?_
      obtain rfl := os hf
      exact G_lreturn dX0_digestOn_137 rfl
    · replace hf := ob_f h1 hf
      refine G_iconst 0 dX0_digestOn_96 (by decide) ?_
      refine G_istore dX0_digestOn_97 (ltb rfl) ?_
      change GG _ _ _ _ _ _ _ _ _ _ [some (.ref 0), none, none, some (.long v3), none, some (.int v5), some (.int 0)] _
      exact g_X0_digestOn_99 ih N hf
def f_X0_digestOn_50 (N : Nat) (c_askers : Int32) (c_places : Int32) (c_seats : Nat → Int32) (c_told : Nat → Int32) (c_wishes : Nat → Int32) (k38 : Int64 → Int32 → Option (Int64)) : Nat → Int64 → Int32 → Int32 → Option (Int64)
  | 0, _, _, _ => none
  | n + 1, v3, v5, v6 =>
    (if c_places ≤ v6 then
      k38 v3 (v5 + 1)
    else
      (f_X0_wishOf N c_wishes v5 v6).bind fun r2 =>
      f_X0_digestOn_50 N c_askers c_places c_seats c_told c_wishes k38 n ((31 * v3) + r2.toInt64) v5 (v6 + 1))
set_option maxHeartbeats 4000000 in
set_option maxRecDepth 100000 in
theorem g_X0_digestOn_50 {κ : KC} {ω : KW} {A : Nat → Prop} {ad : Nat → Nat} {u_age : Int32} {N : Nat} {c_askers : Int32} {c_places : Int32} {c_seats : Nat → Int32} {c_told : Nat → Int32} {c_wishes : Nat → Int32}  {k38 : Int64 → Int32 → Option (Int64)} {res : Int64} (hk38 : ∀ {v3 : Int64} {v5 : Int32}, k38 v3 v5 = some res → GG mu_X0_digestOn κ ω A (QR κ ω A ad (some (.long res)) (w_X0_digestOn c_askers c_places c_seats c_told c_wishes u_age)) ad 0 0 38 (w_X0_digestOn c_askers c_places c_seats c_told c_wishes u_age) [some (.ref 0), none, none, some (.long v3), none, some (.int v5), none] []) : ∀ (n : Nat) {v3 : Int64} {v5 : Int32} {v6 : Int32}, f_X0_digestOn_50 N c_askers c_places c_seats c_told c_wishes k38 n v3 v5 v6 = some res → GG mu_X0_digestOn κ ω A (QR κ ω A ad (some (.long res)) (w_X0_digestOn c_askers c_places c_seats c_told c_wishes u_age)) ad 0 0 50 (w_X0_digestOn c_askers c_places c_seats c_told c_wishes u_age) [some (.ref 0), none, none, some (.long v3), none, some (.int v5), some (.int v6)] [] := by
  intro n
  induction n with
  | zero => intro v3 v5 v6 hf; exact ob_0 hf
  | succ n ih =>
    intro v3 v5 v6 hf
    refine G_iload dX0_digestOn_50 rfl ?_
    refine G_aload_n dX0_digestOn_52 rfl rfl ?_
    refine G_get (v := .int c_places) F_X0_28 dX0_digestOn_53 rfl rfl ?_
    refine G_icmp_ge 81 dX0_digestOn_56 (by decide) (fun h1 => ?_) (fun h1 => ?_)
    · replace hf := ob_t h1 hf
      refine G_iinc 1 dX0_digestOn_81 (by decide) rfl (ltb rfl) ?_
      change GG _ _ _ _ _ _ _ _ _ _ [some (.ref 0), none, none, some (.long v3), none, some (.int (v5 + 1)), some (.int v6)] _
      refine G_goto 38 dX0_digestOn_84 (by decide) ?_
      refine GG.sb (lv2 := [some (.ref 0), none, none, some (.long v3), none, some (.int (v5 + 1)), none]) ?_ (lvS_v rfl (lvS_n (lvS_n (lvS_v rfl (lvS_n (lvS_v rfl (lvS_n (lvS_e))))))))
      exact hk38 hf
    · replace hf := ob_f h1 hf
      refine G_ldc2 (v := 31) dX0_digestOn_59 k_X0_49 ?_
      refine G_lload_n dX0_digestOn_62 rfl rfl ?_
      refine G_lmul dX0_digestOn_63 ?_
      refine G_aload_n dX0_digestOn_64 rfl rfl ?_
      refine G_iload dX0_digestOn_65 rfl ?_
      refine G_iload dX0_digestOn_67 rfl ?_
      obtain ⟨r2, hc3, hf⟩ := ob hf
      refine G_callV (μ2 := mu_X0_wishOf) (As := [.int v5, .int v6]) (w2 := (w_X0_digestOn c_askers c_places c_seats c_told c_wishes u_age)) (wc := (w_X0_wishOf c_wishes c_askers c_places u_age)) (wc2 := (w_X0_wishOf c_wishes c_askers c_places u_age)) (rest := [.long (31 * v3)]) (rv := [.int r2]) [0, 3] [1, 1000, 2] [1, 2] [2, 0, 1, 3] (c_X0_wishOf hc3) cw_X0_wishOf m_X0_51 dX0_digestOn_69 rfl ⟨leb rfl, leb rfl⟩ ⟨rfl, rfl⟩ rfl ⟨_, rfl, rfl⟩ (Fit.mk rfl rfl rfl) rfl (leb rfl) (ROsub.nil rfl rfl) rfl ?_
      change GG _ _ _ _ _ _ _ _ _ (w_X0_digestOn c_askers c_places c_seats c_told c_wishes u_age) [some (.ref 0), none, none, some (.long v3), none, some (.int v5), some (.int v6)] [.int r2, .long (31 * v3)]
      refine G_i2l dX0_digestOn_72 ?_
      refine G_ladd dX0_digestOn_73 ?_
      refine G_lstore_n dX0_digestOn_74 rfl (ltb rfl) ?_
      change GG _ _ _ _ _ _ _ _ _ _ [some (.ref 0), none, none, some (.long ((31 * v3) + r2.toInt64)), none, some (.int v5), some (.int v6)] _
      refine G_iinc 1 dX0_digestOn_75 (by decide) rfl (ltb rfl) ?_
      change GG _ _ _ _ _ _ _ _ _ _ [some (.ref 0), none, none, some (.long ((31 * v3) + r2.toInt64)), none, some (.int v5), some (.int (v6 + 1))] _
      refine G_goto 50 dX0_digestOn_78 (by decide) ?_
      exact ih hf
def f_X0_digestOn_38 (N : Nat) (c_askers : Int32) (c_places : Int32) (c_seats : Nat → Int32) (c_told : Nat → Int32) (c_wishes : Nat → Int32) : Nat → Int64 → Int32 → Option (Int64)
  | 0, _, _ => none
  | n + 1, v3, v5 =>
    (if c_askers ≤ v5 then
      f_X0_digestOn_90 N c_askers c_places c_seats c_told c_wishes N v3 0
    else
      f_X0_digestOn_50 N c_askers c_places c_seats c_told c_wishes (f_X0_digestOn_38 N c_askers c_places c_seats c_told c_wishes n) N v3 v5 0)
set_option maxHeartbeats 4000000 in
set_option maxRecDepth 100000 in
theorem g_X0_digestOn_38 {κ : KC} {ω : KW} {A : Nat → Prop} {ad : Nat → Nat} {u_age : Int32} {N : Nat} {c_askers : Int32} {c_places : Int32} {c_seats : Nat → Int32} {c_told : Nat → Int32} {c_wishes : Nat → Int32}  {res : Int64} : ∀ (n : Nat) {v3 : Int64} {v5 : Int32}, f_X0_digestOn_38 N c_askers c_places c_seats c_told c_wishes n v3 v5 = some res → GG mu_X0_digestOn κ ω A (QR κ ω A ad (some (.long res)) (w_X0_digestOn c_askers c_places c_seats c_told c_wishes u_age)) ad 0 0 38 (w_X0_digestOn c_askers c_places c_seats c_told c_wishes u_age) [some (.ref 0), none, none, some (.long v3), none, some (.int v5), none] [] := by
  intro n
  induction n with
  | zero => intro v3 v5 hf; exact ob_0 hf
  | succ n ih =>
    intro v3 v5 hf
    refine G_iload dX0_digestOn_38 rfl ?_
    refine G_aload_n dX0_digestOn_40 rfl rfl ?_
    refine G_get (v := .int c_askers) F_X0_24 dX0_digestOn_41 rfl rfl ?_
    refine G_icmp_ge 87 dX0_digestOn_44 (by decide) (fun h1 => ?_) (fun h1 => ?_)
    · replace hf := ob_t h1 hf
      refine G_iconst 0 dX0_digestOn_87 (by decide) ?_
      refine G_istore dX0_digestOn_88 (ltb rfl) ?_
      change GG _ _ _ _ _ _ _ _ _ _ [some (.ref 0), none, none, some (.long v3), none, some (.int 0), none] _
      exact g_X0_digestOn_90 N hf
    · replace hf := ob_f h1 hf
      refine G_iconst 0 dX0_digestOn_47 (by decide) ?_
      refine G_istore dX0_digestOn_48 (ltb rfl) ?_
      change GG _ _ _ _ _ _ _ _ _ _ [some (.ref 0), none, none, some (.long v3), none, some (.int v5), some (.int 0)] _
      exact g_X0_digestOn_50 ih N hf
def f_X0_digestOn_5 (N : Nat) (c_askers : Int32) (c_places : Int32) (c_seats : Nat → Int32) (c_told : Nat → Int32) (c_wishes : Nat → Int32) : Nat → Int64 → Int32 → Option (Int64)
  | 0, _, _ => none
  | n + 1, v3, v5 =>
    (if c_places ≤ v5 then
      f_X0_digestOn_38 N c_askers c_places c_seats c_told c_wishes N v3 0
    else
      (rdI 6 c_seats v5).bind fun t2 =>
      f_X0_digestOn_5 N c_askers c_places c_seats c_told c_wishes n ((31 * v3) + t2.toInt64) (v5 + 1))
set_option maxHeartbeats 4000000 in
set_option maxRecDepth 100000 in
theorem g_X0_digestOn_5 {κ : KC} {ω : KW} {A : Nat → Prop} {ad : Nat → Nat} {u_age : Int32} {N : Nat} {c_askers : Int32} {c_places : Int32} {c_seats : Nat → Int32} {c_told : Nat → Int32} {c_wishes : Nat → Int32}  {res : Int64} : ∀ (n : Nat) {v3 : Int64} {v5 : Int32}, f_X0_digestOn_5 N c_askers c_places c_seats c_told c_wishes n v3 v5 = some res → GG mu_X0_digestOn κ ω A (QR κ ω A ad (some (.long res)) (w_X0_digestOn c_askers c_places c_seats c_told c_wishes u_age)) ad 0 0 5 (w_X0_digestOn c_askers c_places c_seats c_told c_wishes u_age) [some (.ref 0), none, none, some (.long v3), none, some (.int v5), none] [] := by
  intro n
  induction n with
  | zero => intro v3 v5 hf; exact ob_0 hf
  | succ n ih =>
    intro v3 v5 hf
    refine G_iload dX0_digestOn_5 rfl ?_
    refine G_aload_n dX0_digestOn_7 rfl rfl ?_
    refine G_get (v := .int c_places) F_X0_28 dX0_digestOn_8 rfl rfl ?_
    refine G_icmp_ge 35 dX0_digestOn_11 (by decide) (fun h1 => ?_) (fun h1 => ?_)
    · replace hf := ob_t h1 hf
      refine G_iconst 0 dX0_digestOn_35 (by decide) ?_
      refine G_istore dX0_digestOn_36 (ltb rfl) ?_
      change GG _ _ _ _ _ _ _ _ _ _ [some (.ref 0), none, none, some (.long v3), none, some (.int 0), none] _
      exact g_X0_digestOn_38 N hf
    · replace hf := ob_f h1 hf
      refine G_ldc2 (v := 31) dX0_digestOn_14 k_X0_49 ?_
      refine G_lload_n dX0_digestOn_17 rfl rfl ?_
      refine G_lmul dX0_digestOn_18 ?_
      refine G_aload_n dX0_digestOn_19 rfl rfl ?_
      refine G_get (v := .ref 1) F_X0_9 dX0_digestOn_20 rfl rfl ?_
      refine G_iload dX0_digestOn_23 rfl ?_
      obtain ⟨t2, ht2, hf⟩ := ob hf
      refine G_iald dX0_digestOn_25 rfl ht2 ?_
      refine G_i2l dX0_digestOn_26 ?_
      refine G_ladd dX0_digestOn_27 ?_
      refine G_lstore_n dX0_digestOn_28 rfl (ltb rfl) ?_
      change GG _ _ _ _ _ _ _ _ _ _ [some (.ref 0), none, none, some (.long ((31 * v3) + t2.toInt64)), none, some (.int v5), none] _
      refine G_iinc 1 dX0_digestOn_29 (by decide) rfl (ltb rfl) ?_
      change GG _ _ _ _ _ _ _ _ _ _ [some (.ref 0), none, none, some (.long ((31 * v3) + t2.toInt64)), none, some (.int (v5 + 1)), none] _
      refine G_goto 5 dX0_digestOn_32 (by decide) ?_
      exact ih hf
def f_X0_digestOn (N : Nat) (c_askers : Int32) (c_places : Int32) (c_seats : Nat → Int32) (c_told : Nat → Int32) (c_wishes : Nat → Int32) (a1 : Int64) : Option (Int64) :=
  f_X0_digestOn_5 N c_askers c_places c_seats c_told c_wishes N a1 0
set_option maxHeartbeats 4000000 in
set_option maxRecDepth 100000 in
theorem c_X0_digestOn {N : Nat} {c_askers : Int32} {c_places : Int32} {c_seats : Nat → Int32} {c_told : Nat → Int32} {c_wishes : Nat → Int32}  {u_age : Int32} {a1 : Int64} {res : Int64} (hf : f_X0_digestOn N c_askers c_places c_seats c_told c_wishes a1 = some res) : Con mu_X0_digestOn [.ref 0, .long a1] (w_X0_digestOn c_askers c_places c_seats c_told c_wishes u_age) (some (.long res)) (w_X0_digestOn c_askers c_places c_seats c_told c_wishes u_age) := by
  refine Con.mk (show plainName RX0 = true by decide +kernel) (leb rfl) (fun κ ω A ad => ?_)
  change GG mu_X0_digestOn κ ω A (QR κ ω A ad (some (.long res)) (w_X0_digestOn c_askers c_places c_seats c_told c_wishes u_age)) ad 0 0 0 (w_X0_digestOn c_askers c_places c_seats c_told c_wishes u_age) [some (.ref 0), some (.long a1), none, none, none, none, none] []
  refine G_lload_n dX0_digestOn_0 rfl rfl ?_
  refine G_lstore_n dX0_digestOn_1 rfl (ltb rfl) ?_
  change GG _ _ _ _ _ _ _ _ _ _ [some (.ref 0), some (.long a1), none, some (.long a1), none, none, none] _
  refine G_iconst 0 dX0_digestOn_2 (by decide) ?_
  refine G_istore dX0_digestOn_3 (ltb rfl) ?_
  change GG _ _ _ _ _ _ _ _ _ _ [some (.ref 0), some (.long a1), none, some (.long a1), none, some (.int 0), none] _
  refine GG.sb (lv2 := [some (.ref 0), none, none, some (.long a1), none, some (.int 0), none]) ?_ (lvS_v rfl (lvS_n (lvS_n (lvS_v rfl (lvS_n (lvS_v rfl (lvS_n (lvS_e))))))))
  exact g_X0_digestOn_5 N hf
