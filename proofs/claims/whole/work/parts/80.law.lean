/-! printed by wip/gen: the law -/
theorem m_L_9 : Cond.methodLink RL 9 yX7_init ∈ ALLW := all_of 13 (by decide +kernel) (by decide +kernel)
theorem m_L_12 : Cond.methodLink RL 12 yX8_init ∈ ALLW := all_of 766 (by decide +kernel) (by decide +kernel)
theorem m_L_13 : Cond.methodLink RL 13 yX7_asker ∈ ALLW := all_of 285 (by decide +kernel) (by decide +kernel)
theorem m_L_17 : Cond.methodLink RL 17 yX8_asker ∈ ALLW := all_of 862 (by decide +kernel) (by decide +kernel)
theorem m_L_18 : Cond.methodLink RL 18 yX7_place ∈ ALLW := all_of 293 (by decide +kernel) (by decide +kernel)
theorem m_L_22 : Cond.methodLink RL 22 yX8_place ∈ ALLW := all_of 866 (by decide +kernel) (by decide +kernel)
theorem m_L_23 : Cond.methodLink RL 23 yX7_seats ∈ ALLW := all_of 304 (by decide +kernel) (by decide +kernel)
theorem m_L_27 : Cond.methodLink RL 27 yX8_seats ∈ ALLW := all_of 873 (by decide +kernel) (by decide +kernel)
theorem m_L_28 : Cond.methodLink RL 28 yX7_wish ∈ ALLW := all_of 324 (by decide +kernel) (by decide +kernel)
theorem m_L_32 : Cond.methodLink RL 32 yX8_wish ∈ ALLW := all_of 885 (by decide +kernel) (by decide +kernel)
theorem m_L_33 : Cond.methodLink RL 33 yX7_worth ∈ ALLW := all_of 344 (by decide +kernel) (by decide +kernel)
theorem m_L_36 : Cond.methodLink RL 36 yX8_worth ∈ ALLW := all_of 893 (by decide +kernel) (by decide +kernel)
theorem m_L_37 : Cond.methodLink RL 37 yX7_givings ∈ ALLW := all_of 356 (by decide +kernel) (by decide +kernel)
theorem m_L_41 : Cond.methodLink RL 41 yX8_givings ∈ ALLW := all_of 901 (by decide +kernel) (by decide +kernel)
theorem m_L_44 : Cond.methodLink RL 44 yX7_givingAt ∈ ALLW := all_of 426 (by decide +kernel) (by decide +kernel)
theorem m_L_48 : Cond.methodLink RL 48 yX8_givingAt ∈ ALLW := all_of 917 (by decide +kernel) (by decide +kernel)
theorem m_L_49 : Cond.methodLink RL 49 yX7_give ∈ ALLW := all_of 439 (by decide +kernel) (by decide +kernel)
theorem m_L_52 : Cond.methodLink RL 52 yX8_give ∈ ALLW := all_of 921 (by decide +kernel) (by decide +kernel)
theorem m_L_53 : Cond.methodLink RL 53 yX7_become ∈ ALLW := all_of 458 (by decide +kernel) (by decide +kernel)
theorem m_L_56 : Cond.methodLink RL 56 yX8_become ∈ ALLW := all_of 928 (by decide +kernel) (by decide +kernel)
theorem m_L_57 : Cond.methodLink RL 57 yX7_has ∈ ALLW := all_of 520 (by decide +kernel) (by decide +kernel)
theorem m_L_60 : Cond.methodLink RL 60 yX8_has ∈ ALLW := all_of 966 (by decide +kernel) (by decide +kernel)
theorem m_L_61 : Cond.methodLink RL 61 yX7_placeOf ∈ ALLW := all_of 524 (by decide +kernel) (by decide +kernel)
theorem m_L_65 : Cond.methodLink RL 65 yX8_placeOf ∈ ALLW := all_of 970 (by decide +kernel) (by decide +kernel)
theorem m_L_66 : Cond.methodLink RL 66 yX7_many ∈ ALLW := all_of 533 (by decide +kernel) (by decide +kernel)
theorem m_L_69 : Cond.methodLink RL 69 yX8_many ∈ ALLW := all_of 975 (by decide +kernel) (by decide +kernel)
theorem m_L_70 : Cond.methodLink RL 70 yX7_votes ∈ ALLW := all_of 537 (by decide +kernel) (by decide +kernel)
theorem m_L_73 : Cond.methodLink RL 73 yX8_votes ∈ ALLW := all_of 979 (by decide +kernel) (by decide +kernel)
theorem m_L_74 : Cond.methodLink RL 74 yX7_margin ∈ ALLW := all_of 549 (by decide +kernel) (by decide +kernel)
theorem m_L_77 : Cond.methodLink RL 77 yX8_margin ∈ ALLW := all_of 983 (by decide +kernel) (by decide +kernel)
theorem m_L_78 : Cond.methodLink RL 78 yX7_beater ∈ ALLW := all_of 557 (by decide +kernel) (by decide +kernel)
theorem m_L_81 : Cond.methodLink RL 81 yX8_beater ∈ ALLW := all_of 987 (by decide +kernel) (by decide +kernel)
theorem m_L_82 : Cond.methodLink RL 82 yX7_factor ∈ ALLW := all_of 561 (by decide +kernel) (by decide +kernel)
theorem m_L_85 : Cond.methodLink RL 85 yX8_factor ∈ ALLW := all_of 995 (by decide +kernel) (by decide +kernel)
theorem m_L_86 : Cond.methodLink RL 86 yX7_part ∈ ALLW := all_of 585 (by decide +kernel) (by decide +kernel)
theorem m_L_89 : Cond.methodLink RL 89 yX8_part ∈ ALLW := all_of 1010 (by decide +kernel) (by decide +kernel)
theorem m_L_90 : Cond.methodLink RL 90 yX7_better ∈ ALLW := all_of 590 (by decide +kernel) (by decide +kernel)
theorem m_L_93 : Cond.methodLink RL 93 yX8_better ∈ ALLW := all_of 991 (by decide +kernel) (by decide +kernel)
theorem m_L_94 : Cond.methodLink RL 94 yX7_standing ∈ ALLW := all_of 591 (by decide +kernel) (by decide +kernel)
theorem m_L_97 : Cond.methodLink RL 97 yX8_standing ∈ ALLW := all_of 1014 (by decide +kernel) (by decide +kernel)
theorem m_L_98 : Cond.methodLink RL 98 yX7_standingAt ∈ ALLW := all_of 624 (by decide +kernel) (by decide +kernel)
theorem m_L_101 : Cond.methodLink RL 101 yX8_standingAt ∈ ALLW := all_of 1046 (by decide +kernel) (by decide +kernel)
theorem m_L_102 : Cond.methodLink RL 102 yX7_standingMany ∈ ALLW := all_of 629 (by decide +kernel) (by decide +kernel)
theorem m_L_105 : Cond.methodLink RL 105 yX8_standingMany ∈ ALLW := all_of 1050 (by decide +kernel) (by decide +kernel)
theorem m_L_106 : Cond.methodLink RL 106 yX7_turn ∈ ALLW := all_of 633 (by decide +kernel) (by decide +kernel)
theorem m_L_109 : Cond.methodLink RL 109 yX8_turn ∈ ALLW := all_of 1055 (by decide +kernel) (by decide +kernel)
theorem m_L_110 : Cond.methodLink RL 110 yX7_round ∈ ALLW := all_of 645 (by decide +kernel) (by decide +kernel)
theorem m_L_113 : Cond.methodLink RL 113 yX8_round ∈ ALLW := all_of 1060 (by decide +kernel) (by decide +kernel)
theorem m_L_114 : Cond.methodLink RL 114 yX7_leaving ∈ ALLW := all_of 649 (by decide +kernel) (by decide +kernel)
theorem m_L_117 : Cond.methodLink RL 117 yX8_leaving ∈ ALLW := all_of 1064 (by decide +kernel) (by decide +kernel)
theorem m_L_118 : Cond.methodLink RL 118 yX7_chance ∈ ALLW := all_of 671 (by decide +kernel) (by decide +kernel)
theorem m_L_121 : Cond.methodLink RL 121 yX8_chance ∈ ALLW := all_of 1080 (by decide +kernel) (by decide +kernel)
theorem m_L_122 : Cond.methodLink RL 122 yX7_share ∈ ALLW := all_of 697 (by decide +kernel) (by decide +kernel)
theorem m_L_125 : Cond.methodLink RL 125 yX8_share ∈ ALLW := all_of 1088 (by decide +kernel) (by decide +kernel)
theorem m_L_126 : Cond.methodLink RL 126 yX7_envies ∈ ALLW := all_of 730 (by decide +kernel) (by decide +kernel)
theorem m_L_129 : Cond.methodLink RL 129 yX8_envies ∈ ALLW := all_of 1104 (by decide +kernel) (by decide +kernel)
theorem m_L_130 : Cond.methodLink RL 130 yX7_count ∈ ALLW := all_of 739 (by decide +kernel) (by decide +kernel)
theorem m_L_133 : Cond.methodLink RL 133 yX8_count ∈ ALLW := all_of 1108 (by decide +kernel) (by decide +kernel)
theorem m_L_134 : Cond.methodLink RL 134 yX7_digest ∈ ALLW := all_of 751 (by decide +kernel) (by decide +kernel)
theorem m_L_137 : Cond.methodLink RL 137 yX8_digest ∈ ALLW := all_of 1116 (by decide +kernel) (by decide +kernel)
theorem k_L_42 : Cond.constantLong RL 42 4294967295 ∈ ALLW := all_of 1122 (by decide +kernel) (by decide +kernel)
theorem N_L_7 : NEW RL 7 7 [.null, .null, .null, .null, .null, .null, .null, .null, .null, .null, .long 0, .long 0] := ⟨RX7, TX7, 12, tyX7, rfl, rfl, uX7, tyX7_ok, all_of 11 (by decide +kernel) (by decide +kernel), all_of 12 (by decide +kernel) (by decide +kernel), all_of 1 (by decide +kernel) (by decide +kernel), by decide +kernel⟩
theorem N_L_10 : NEW RL 10 8 [.int 0, .int 0, .null, .null, .null, .long 0, .long 0, .null, .int 0, .null, .null, .null, .null, .null, .null, .int 0, .null, .null, .int 0, .null, .null, .null, .null, .null, .null, .long 0, .null, .null, .null] := ⟨RX8, TX8, 29, tyX8, rfl, rfl, uX8, tyX8_ok, all_of 764 (by decide +kernel) (by decide +kernel), all_of 765 (by decide +kernel) (by decide +kernel), all_of 9 (by decide +kernel) (by decide +kernel), by decide +kernel⟩
abbrev mu_L (nm : String) (L : Nat) (c_a0 : Nat → Int32) : KM := (⟨RL, nm, "([I)Z"⟩, cL_law, 4, some .boolean, room_1, [(1000, L, c_a0), (1001, 9, ro_ORDERS), (1002, 8, ro_FAIREST_GAINS), (1003, 8, ro_FIRSTS_GAINS), (1004, 8, ro_MOST_GAINS)], [("WishPlaces$Lots", "ORDERS", 1001), ("WishPlaces", "FAIREST_GAINS", 1002), ("WishPlaces", "FIRSTS_GAINS", 1003), ("WishPlaces", "MOST_GAINS", 1004)])
theorem roHi_L (nm : String) (L : Nat) (c_a0 : Nat → Int32) : roHi (mu_L nm L c_a0) := ⟨List.forall_mem_cons.mpr ⟨leb rfl, List.forall_mem_cons.mpr ⟨leb rfl, List.forall_mem_cons.mpr ⟨leb rfl, List.forall_mem_cons.mpr ⟨leb rfl, List.forall_mem_cons.mpr ⟨leb rfl, fun _ h => absurd h List.not_mem_nil⟩⟩⟩⟩⟩, List.forall_mem_cons.mpr ⟨leb rfl, List.forall_mem_cons.mpr ⟨leb rfl, List.forall_mem_cons.mpr ⟨leb rfl, List.forall_mem_cons.mpr ⟨leb rfl, fun _ h => absurd h List.not_mem_nil⟩⟩⟩⟩⟩
theorem hcs_L (nm : String) (L : Nat) (c_a0 : Nat → Int32) : 83 ≤ (mu_L nm L c_a0).2.2.2.2.1.cells ∧ 1568902 ≤ (mu_L nm L c_a0).2.2.2.2.1.slots := ⟨lel (a' := 83) (b' := 600000) rfl rfl rfl, lel (a' := 1568902) (b' := 7302250) rfl rfl rfl⟩
def w_L_law (c_a1_above : Int64) (c_a1_below : Int64) (c_a1_board_askers : Int32) (c_a1_board_places : Int32) (c_a1_board_age : Int32) (c_a1_board_seats : Nat → Int32) (c_a1_board_wishes : Nat → Int32) (c_a1_board_likes : Nat → Int32) (c_a1_board_told : Nat → Int32) (c_a1_all_slots : Nat → Int32) (c_a1_all_askers : Int32) (c_a1_all_places : Int32) (c_a1_all_seatBits : Int32) (c_a1_all_entries : Int32) (c_a1_all_gains : Nat → Int32) (c_a1_all_solvedGains : Nat → Int32) (c_a1_all_left : Nat → Int32) (c_a1_all_best : Nat → Int32) (c_a1_all_ways : Nat → Int32) (c_a1_all_next : Nat → Int32) (c_a1_all_firstOf : Nat → Int32) (c_a1_all_clipAll : Nat → Int32) (c_a1_all_clipToOne : Nat → Int32) (c_a1_all_clipToTwo : Nat → Int32) (c_a1_steady_askers : Int32) (c_a1_steady_places : Int32) (c_a1_steady_seatBits : Int32) (c_a1_steady_entries : Int32) (c_a1_steady_gains : Nat → Int32) (c_a1_steady_solvedGains : Nat → Int32) (c_a1_steady_left : Nat → Int32) (c_a1_steady_best : Nat → Int32) (c_a1_steady_ways : Nat → Int32) (c_a1_steady_next : Nat → Int32) (c_a1_steady_firstOf : Nat → Int32) (c_a1_steady_clipAll : Nat → Int32) (c_a1_steady_clipToOne : Nat → Int32) (c_a1_steady_clipToTwo : Nat → Int32) (c_a1_aimed_askers : Int32) (c_a1_aimed_places : Int32) (c_a1_aimed_seatBits : Int32) (c_a1_aimed_entries : Int32) (c_a1_aimed_gains : Nat → Int32) (c_a1_aimed_solvedGains : Nat → Int32) (c_a1_aimed_left : Nat → Int32) (c_a1_aimed_best : Nat → Int32) (c_a1_aimed_ways : Nat → Int32) (c_a1_aimed_next : Nat → Int32) (c_a1_aimed_firstOf : Nat → Int32) (c_a1_aimed_clipAll : Nat → Int32) (c_a1_aimed_clipToOne : Nat → Int32) (c_a1_aimed_clipToTwo : Nat → Int32) (c_a1_steadiness_most : Int32) (c_a1_steadiness_tight : Int32) (c_a1_steadiness_firsts : Nat → Int32) (c_a1_trade_gets : Nat → Int32) (c_a1_trade_servedIn : Nat → Int32) (c_a1_trade_holds : Nat → Int32) (c_a1_trade_pointsAt : Nat → Int32) (c_a1_trade_holderOf : Nat → Int32) (c_a1_ring_length : Int32) (c_a1_ring_members : Nat → Int32) (c_a1_ring_wants : Nat → Int32) (c_a1_lots_age : Int32) (c_a1_lots_runs : Int64) (c_a1_lots_wanting : Int32) (c_a1_lots_wanted : Int32) (c_a1_lots_answers : Nat → Int32) (c_a1_lots_memoKeys : Nat → Int64) (c_a1_lots_memos : Nat → Int32) (c_a1_eating_whole : Int64) (c_a1_eating_time : Int64) (c_a1_eating_eaten : Nat → Int64) (c_a1_eating_rest : Nat → Int64) (c_a1_eating_eatsAt : Nat → Int32) (c_a1_eating_eaters : Nat → Int32) (c_a1_row : Nat → Int32) (c_a2_askers : Int32) (c_a2_places : Int32) (c_a2_above : Int64) (c_a2_below : Int64) (c_a2_full : Int32) (c_a2_firsts : Int32) (c_a2_freed : Int32) (c_a2_whole : Int64) (c_a2_seats : Nat → Int32) (c_a2_wish : Nat → Int32) (c_a2_told : Nat → Int32) (c_a2_weight : Nat → Int32) (c_a2_count : Nat → Int64) (c_a2_found : Nat → Int32) (c_a2_cost : Nat → Int64) (c_a2_least : Nat → Int64) (c_a2_prefer : Nat → Int32) (c_a2_next : Nat → Int32) (c_a2_firstWorth : Nat → Int32) (c_a2_secondWorth : Nat → Int32) (c_a2_stand : Nat → Int64) (c_a2_served : Nat → Int32) (c_a2_points : Nat → Int32) (c_a2_can : Nat → Int32) (c_a2_ring : Nat → Int32) (c_a2_ways : Nat → Int32) (c_a2_leftOf : Nat → Int64) (c_a2_ate : Nat → Int64) (c_a2_eats : Nat → Int32) : List mE := [.inr (7, [.ref 1, .ref 7, .ref 18, .ref 29, .ref 40, .ref 42, .ref 48, .ref 51, .ref 55, .ref 60, .long c_a1_above, .long c_a1_below]), .inr (0, [.int c_a1_board_askers, .int c_a1_board_places, .int c_a1_board_age, .ref 2, .ref 3, .ref 4, .ref 5]), .inl (0, 6, .inl c_a1_board_seats), .inl (0, 48, .inl c_a1_board_wishes), .inl (0, 48, .inl c_a1_board_likes), .inl (0, 32, .inl c_a1_board_told), .inl (0, 4096, .inl c_a1_all_slots), .inr (4, [.ref 1, .ref 8, .ref 9, .int c_a1_all_askers, .int c_a1_all_places, .int c_a1_all_seatBits, .ref 10, .ref 11, .ref 12, .ref 13, .ref 14, .int c_a1_all_entries, .ref 6, .ref 15, .ref 16, .ref 17]), .inl (0, 56, .inl c_a1_all_gains), .inl (0, 56, .inl c_a1_all_solvedGains), .inl (0, 1056, .inl c_a1_all_left), .inl (0, 1056, .inl c_a1_all_best), .inl (0, 1056, .inl c_a1_all_ways), .inl (0, 7392, .inl c_a1_all_next), .inl (0, 10, .inl c_a1_all_firstOf), .inl (0, 9, .inl c_a1_all_clipAll), .inl (0, 9, .inl c_a1_all_clipToOne), .inl (0, 9, .inl c_a1_all_clipToTwo), .inr (4, [.ref 1, .ref 19, .ref 20, .int c_a1_steady_askers, .int c_a1_steady_places, .int c_a1_steady_seatBits, .ref 21, .ref 22, .ref 23, .ref 24, .ref 25, .int c_a1_steady_entries, .ref 6, .ref 26, .ref 27, .ref 28]), .inl (0, 56, .inl c_a1_steady_gains), .inl (0, 56, .inl c_a1_steady_solvedGains), .inl (0, 1056, .inl c_a1_steady_left), .inl (0, 1056, .inl c_a1_steady_best), .inl (0, 1056, .inl c_a1_steady_ways), .inl (0, 7392, .inl c_a1_steady_next), .inl (0, 10, .inl c_a1_steady_firstOf), .inl (0, 9, .inl c_a1_steady_clipAll), .inl (0, 9, .inl c_a1_steady_clipToOne), .inl (0, 9, .inl c_a1_steady_clipToTwo), .inr (4, [.ref 1, .ref 30, .ref 31, .int c_a1_aimed_askers, .int c_a1_aimed_places, .int c_a1_aimed_seatBits, .ref 32, .ref 33, .ref 34, .ref 35, .ref 36, .int c_a1_aimed_entries, .ref 6, .ref 37, .ref 38, .ref 39]), .inl (0, 56, .inl c_a1_aimed_gains), .inl (0, 56, .inl c_a1_aimed_solvedGains), .inl (0, 1056, .inl c_a1_aimed_left), .inl (0, 1056, .inl c_a1_aimed_best), .inl (0, 1056, .inl c_a1_aimed_ways), .inl (0, 7392, .inl c_a1_aimed_next), .inl (0, 10, .inl c_a1_aimed_firstOf), .inl (0, 9, .inl c_a1_aimed_clipAll), .inl (0, 9, .inl c_a1_aimed_clipToOne), .inl (0, 9, .inl c_a1_aimed_clipToTwo), .inr (5, [.ref 1, .int c_a1_steadiness_most, .ref 41, .int c_a1_steadiness_tight]), .inl (0, 8, .inl c_a1_steadiness_firsts), .inr (6, [.ref 1, .ref 43, .ref 44, .ref 45, .ref 46, .ref 47]), .inl (0, 8, .inl c_a1_trade_gets), .inl (0, 8, .inl c_a1_trade_servedIn), .inl (0, 8, .inl c_a1_trade_holds), .inl (0, 8, .inl c_a1_trade_pointsAt), .inl (0, 6, .inl c_a1_trade_holderOf), .inr (3, [.ref 1, .ref 49, .int c_a1_ring_length, .ref 50]), .inl (0, 8, .inl c_a1_ring_members), .inl (0, 8, .inl c_a1_ring_wants), .inr (2, [.ref 1, .ref 52, .int c_a1_lots_age, .ref 53, .ref 54, .long c_a1_lots_runs, .int c_a1_lots_wanting, .int c_a1_lots_wanted]), .inl (0, 48, .inl c_a1_lots_answers), .inl (1, 2048, .inr (.inl c_a1_lots_memoKeys)), .inl (0, 2048, .inl c_a1_lots_memos), .inr (1, [.long c_a1_eating_whole, .ref 1, .long c_a1_eating_time, .ref 56, .ref 57, .ref 58, .ref 59]), .inl (1, 48, .inr (.inl c_a1_eating_eaten)), .inl (1, 6, .inr (.inl c_a1_eating_rest)), .inl (0, 8, .inl c_a1_eating_eatsAt), .inl (0, 6, .inl c_a1_eating_eaters), .inl (0, 8, .inl c_a1_row), .inr (8, [.int c_a2_askers, .int c_a2_places, .ref 62, .ref 63, .ref 64, .long c_a2_above, .long c_a2_below, .ref 65, .int c_a2_full, .ref 66, .ref 67, .ref 68, .ref 69, .ref 70, .ref 71, .int c_a2_firsts, .ref 72, .ref 73, .int c_a2_freed, .ref 74, .ref 75, .ref 76, .ref 77, .ref 78, .ref 79, .long c_a2_whole, .ref 80, .ref 81, .ref 82]), .inl (0, 6, .inl c_a2_seats), .inl (0, 48, .inl c_a2_wish), .inl (0, 32, .inl c_a2_told), .inl (0, 6, .inl c_a2_weight), .inl (1, 36864, .inr (.inl c_a2_count)), .inl (0, 8, .inl c_a2_found), .inl (1, 56, .inr (.inl c_a2_cost)), .inl (1, 36864, .inr (.inl c_a2_least)), .inl (0, 36864, .inl c_a2_prefer), .inl (0, 36864, .inl c_a2_next), .inl (0, 8, .inl c_a2_firstWorth), .inl (0, 8, .inl c_a2_secondWorth), .inl (1, 331776, .inr (.inl c_a2_stand)), .inl (0, 8, .inl c_a2_served), .inl (0, 8, .inl c_a2_points), .inl (2, 72, .inl c_a2_can), .inl (0, 8, .inl c_a2_ring), .inl (0, 1048576, .inl c_a2_ways), .inl (1, 6, .inr (.inl c_a2_leftOf)), .inl (1, 48, .inr (.inl c_a2_ate)), .inl (0, 8, .inl c_a2_eats)]
set_option maxRecDepth 20000 in
theorem dL_law_0 : decode cL_law 0 = .ok (.new 7, 3) := by decide +kernel
set_option maxRecDepth 20000 in
theorem dL_law_3 : decode cL_law 3 = .ok (.dup, 1) := by decide +kernel
set_option maxRecDepth 20000 in
theorem dL_law_4 : decode cL_law 4 = .ok (.invokespecial 9, 3) := by decide +kernel
set_option maxRecDepth 20000 in
theorem dL_law_7 : decode cL_law 7 = .ok (.astore_n 1, 1) := by decide +kernel
set_option maxRecDepth 20000 in
theorem dL_law_8 : decode cL_law 8 = .ok (.new 10, 3) := by decide +kernel
set_option maxRecDepth 20000 in
theorem dL_law_11 : decode cL_law 11 = .ok (.dup, 1) := by decide +kernel
set_option maxRecDepth 20000 in
theorem dL_law_12 : decode cL_law 12 = .ok (.invokespecial 12, 3) := by decide +kernel
set_option maxRecDepth 20000 in
theorem dL_law_15 : decode cL_law 15 = .ok (.astore_n 2, 1) := by decide +kernel
set_option maxRecDepth 20000 in
theorem dL_law_16 : decode cL_law 16 = .ok (.iconst 0, 1) := by decide +kernel
set_option maxRecDepth 20000 in
theorem dL_law_17 : decode cL_law 17 = .ok (.istore_n 3, 1) := by decide +kernel
set_option maxRecDepth 20000 in
theorem dL_law_18 : decode cL_law 18 = .ok (.iload_n 3, 1) := by decide +kernel
set_option maxRecDepth 20000 in
theorem dL_law_19 : decode cL_law 19 = .ok (.aload_n 0, 1) := by decide +kernel
set_option maxRecDepth 20000 in
theorem dL_law_20 : decode cL_law 20 = .ok (.arraylength, 1) := by decide +kernel
set_option maxRecDepth 20000 in
theorem dL_law_21 : decode cL_law 21 = .ok (.iconst 4, 1) := by decide +kernel
set_option maxRecDepth 20000 in
theorem dL_law_22 : decode cL_law 22 = .ok (.isub, 1) := by decide +kernel
set_option maxRecDepth 20000 in
theorem dL_law_23 : decode cL_law 23 = .ok (.if_icmp .gt 1039, 3) := by decide +kernel
set_option maxRecDepth 20000 in
theorem dL_law_26 : decode cL_law 26 = .ok (.aload_n 0, 1) := by decide +kernel
set_option maxRecDepth 20000 in
theorem dL_law_27 : decode cL_law 27 = .ok (.iload_n 3, 1) := by decide +kernel
set_option maxRecDepth 20000 in
theorem dL_law_28 : decode cL_law 28 = .ok (.iaload, 1) := by decide +kernel
set_option maxRecDepth 20000 in
theorem dL_law_29 : decode cL_law 29 = .ok (.bipush 31, 2) := by decide +kernel
set_option maxRecDepth 20000 in
theorem dL_law_31 : decode cL_law 31 = .ok (.iand, 1) := by decide +kernel
set_option maxRecDepth 20000 in
theorem dL_law_32 : decode cL_law 32 = .ok (.tableswitch 1024 0 28 #[132, 145, 168, 201, 244, 277, 291, 354, 397, 430, 463, 487, 520, 553, 576, 609, 632, 656, 679, 693, 756, 779, 812, 845, 888, 921, 954, 987, 1010], 132) := by decide +kernel
set_option maxRecDepth 20000 in
theorem dL_law_164 : decode cL_law 164 = .ok (.aload_n 1, 1) := by decide +kernel
set_option maxRecDepth 20000 in
theorem dL_law_165 : decode cL_law 165 = .ok (.invokevirtual 13, 3) := by decide +kernel
set_option maxRecDepth 20000 in
theorem dL_law_168 : decode cL_law 168 = .ok (.aload_n 2, 1) := by decide +kernel
set_option maxRecDepth 20000 in
theorem dL_law_169 : decode cL_law 169 = .ok (.invokevirtual 17, 3) := by decide +kernel
set_option maxRecDepth 20000 in
theorem dL_law_172 : decode cL_law 172 = .ok (.if_icmp .eq 884, 3) := by decide +kernel
set_option maxRecDepth 20000 in
theorem dL_law_175 : decode cL_law 175 = .ok (.iconst 0, 1) := by decide +kernel
set_option maxRecDepth 20000 in
theorem dL_law_176 : decode cL_law 176 = .ok (.ireturn, 1) := by decide +kernel
set_option maxRecDepth 20000 in
theorem dL_law_177 : decode cL_law 177 = .ok (.aload_n 1, 1) := by decide +kernel
set_option maxRecDepth 20000 in
theorem dL_law_178 : decode cL_law 178 = .ok (.aload_n 0, 1) := by decide +kernel
set_option maxRecDepth 20000 in
theorem dL_law_179 : decode cL_law 179 = .ok (.iload_n 3, 1) := by decide +kernel
set_option maxRecDepth 20000 in
theorem dL_law_180 : decode cL_law 180 = .ok (.iconst 1, 1) := by decide +kernel
set_option maxRecDepth 20000 in
theorem dL_law_181 : decode cL_law 181 = .ok (.iadd, 1) := by decide +kernel
set_option maxRecDepth 20000 in
theorem dL_law_182 : decode cL_law 182 = .ok (.iaload, 1) := by decide +kernel
set_option maxRecDepth 20000 in
theorem dL_law_183 : decode cL_law 183 = .ok (.invokevirtual 18, 3) := by decide +kernel
set_option maxRecDepth 20000 in
theorem dL_law_186 : decode cL_law 186 = .ok (.aload_n 2, 1) := by decide +kernel
set_option maxRecDepth 20000 in
theorem dL_law_187 : decode cL_law 187 = .ok (.aload_n 0, 1) := by decide +kernel
set_option maxRecDepth 20000 in
theorem dL_law_188 : decode cL_law 188 = .ok (.iload_n 3, 1) := by decide +kernel
set_option maxRecDepth 20000 in
theorem dL_law_189 : decode cL_law 189 = .ok (.iconst 1, 1) := by decide +kernel
set_option maxRecDepth 20000 in
theorem dL_law_190 : decode cL_law 190 = .ok (.iadd, 1) := by decide +kernel
set_option maxRecDepth 20000 in
theorem dL_law_191 : decode cL_law 191 = .ok (.iaload, 1) := by decide +kernel
set_option maxRecDepth 20000 in
theorem dL_law_192 : decode cL_law 192 = .ok (.invokevirtual 22, 3) := by decide +kernel
set_option maxRecDepth 20000 in
theorem dL_law_195 : decode cL_law 195 = .ok (.if_icmp .eq 861, 3) := by decide +kernel
set_option maxRecDepth 20000 in
theorem dL_law_198 : decode cL_law 198 = .ok (.iconst 0, 1) := by decide +kernel
set_option maxRecDepth 20000 in
theorem dL_law_199 : decode cL_law 199 = .ok (.ireturn, 1) := by decide +kernel
set_option maxRecDepth 20000 in
theorem dL_law_200 : decode cL_law 200 = .ok (.aload_n 1, 1) := by decide +kernel
set_option maxRecDepth 20000 in
theorem dL_law_201 : decode cL_law 201 = .ok (.aload_n 0, 1) := by decide +kernel
set_option maxRecDepth 20000 in
theorem dL_law_202 : decode cL_law 202 = .ok (.iload_n 3, 1) := by decide +kernel
set_option maxRecDepth 20000 in
theorem dL_law_203 : decode cL_law 203 = .ok (.iconst 1, 1) := by decide +kernel
set_option maxRecDepth 20000 in
theorem dL_law_204 : decode cL_law 204 = .ok (.iadd, 1) := by decide +kernel
set_option maxRecDepth 20000 in
theorem dL_law_205 : decode cL_law 205 = .ok (.iaload, 1) := by decide +kernel
set_option maxRecDepth 20000 in
theorem dL_law_206 : decode cL_law 206 = .ok (.aload_n 0, 1) := by decide +kernel
set_option maxRecDepth 20000 in
theorem dL_law_207 : decode cL_law 207 = .ok (.iload_n 3, 1) := by decide +kernel
set_option maxRecDepth 20000 in
theorem dL_law_208 : decode cL_law 208 = .ok (.iconst 2, 1) := by decide +kernel
set_option maxRecDepth 20000 in
theorem dL_law_209 : decode cL_law 209 = .ok (.iadd, 1) := by decide +kernel
set_option maxRecDepth 20000 in
theorem dL_law_210 : decode cL_law 210 = .ok (.iaload, 1) := by decide +kernel
set_option maxRecDepth 20000 in
theorem dL_law_211 : decode cL_law 211 = .ok (.invokevirtual 23, 3) := by decide +kernel
set_option maxRecDepth 20000 in
theorem dL_law_214 : decode cL_law 214 = .ok (.aload_n 2, 1) := by decide +kernel
set_option maxRecDepth 20000 in
theorem dL_law_215 : decode cL_law 215 = .ok (.aload_n 0, 1) := by decide +kernel
set_option maxRecDepth 20000 in
theorem dL_law_216 : decode cL_law 216 = .ok (.iload_n 3, 1) := by decide +kernel
set_option maxRecDepth 20000 in
theorem dL_law_217 : decode cL_law 217 = .ok (.iconst 1, 1) := by decide +kernel
set_option maxRecDepth 20000 in
theorem dL_law_218 : decode cL_law 218 = .ok (.iadd, 1) := by decide +kernel
set_option maxRecDepth 20000 in
theorem dL_law_219 : decode cL_law 219 = .ok (.iaload, 1) := by decide +kernel
set_option maxRecDepth 20000 in
theorem dL_law_220 : decode cL_law 220 = .ok (.aload_n 0, 1) := by decide +kernel
set_option maxRecDepth 20000 in
theorem dL_law_221 : decode cL_law 221 = .ok (.iload_n 3, 1) := by decide +kernel
set_option maxRecDepth 20000 in
theorem dL_law_222 : decode cL_law 222 = .ok (.iconst 2, 1) := by decide +kernel
set_option maxRecDepth 20000 in
theorem dL_law_223 : decode cL_law 223 = .ok (.iadd, 1) := by decide +kernel
set_option maxRecDepth 20000 in
theorem dL_law_224 : decode cL_law 224 = .ok (.iaload, 1) := by decide +kernel
set_option maxRecDepth 20000 in
theorem dL_law_225 : decode cL_law 225 = .ok (.invokevirtual 27, 3) := by decide +kernel
set_option maxRecDepth 20000 in
theorem dL_law_228 : decode cL_law 228 = .ok (.if_icmp .eq 828, 3) := by decide +kernel
set_option maxRecDepth 20000 in
theorem dL_law_231 : decode cL_law 231 = .ok (.iconst 0, 1) := by decide +kernel
set_option maxRecDepth 20000 in
theorem dL_law_232 : decode cL_law 232 = .ok (.ireturn, 1) := by decide +kernel
set_option maxRecDepth 20000 in
theorem dL_law_233 : decode cL_law 233 = .ok (.aload_n 1, 1) := by decide +kernel
set_option maxRecDepth 20000 in
theorem dL_law_234 : decode cL_law 234 = .ok (.aload_n 0, 1) := by decide +kernel
set_option maxRecDepth 20000 in
theorem dL_law_235 : decode cL_law 235 = .ok (.iload_n 3, 1) := by decide +kernel
set_option maxRecDepth 20000 in
theorem dL_law_236 : decode cL_law 236 = .ok (.iconst 1, 1) := by decide +kernel
set_option maxRecDepth 20000 in
theorem dL_law_237 : decode cL_law 237 = .ok (.iadd, 1) := by decide +kernel
set_option maxRecDepth 20000 in
theorem dL_law_238 : decode cL_law 238 = .ok (.iaload, 1) := by decide +kernel
set_option maxRecDepth 20000 in
theorem dL_law_239 : decode cL_law 239 = .ok (.aload_n 0, 1) := by decide +kernel
set_option maxRecDepth 20000 in
theorem dL_law_240 : decode cL_law 240 = .ok (.iload_n 3, 1) := by decide +kernel
set_option maxRecDepth 20000 in
theorem dL_law_241 : decode cL_law 241 = .ok (.iconst 2, 1) := by decide +kernel
set_option maxRecDepth 20000 in
theorem dL_law_242 : decode cL_law 242 = .ok (.iadd, 1) := by decide +kernel
set_option maxRecDepth 20000 in
theorem dL_law_243 : decode cL_law 243 = .ok (.iaload, 1) := by decide +kernel
set_option maxRecDepth 20000 in
theorem dL_law_244 : decode cL_law 244 = .ok (.aload_n 0, 1) := by decide +kernel
set_option maxRecDepth 20000 in
theorem dL_law_245 : decode cL_law 245 = .ok (.iload_n 3, 1) := by decide +kernel
set_option maxRecDepth 20000 in
theorem dL_law_246 : decode cL_law 246 = .ok (.iconst 3, 1) := by decide +kernel
set_option maxRecDepth 20000 in
theorem dL_law_247 : decode cL_law 247 = .ok (.iadd, 1) := by decide +kernel
set_option maxRecDepth 20000 in
theorem dL_law_248 : decode cL_law 248 = .ok (.iaload, 1) := by decide +kernel
set_option maxRecDepth 20000 in
theorem dL_law_249 : decode cL_law 249 = .ok (.invokevirtual 28, 3) := by decide +kernel
set_option maxRecDepth 20000 in
theorem dL_law_252 : decode cL_law 252 = .ok (.aload_n 2, 1) := by decide +kernel
set_option maxRecDepth 20000 in
theorem dL_law_253 : decode cL_law 253 = .ok (.aload_n 0, 1) := by decide +kernel
set_option maxRecDepth 20000 in
theorem dL_law_254 : decode cL_law 254 = .ok (.iload_n 3, 1) := by decide +kernel
set_option maxRecDepth 20000 in
theorem dL_law_255 : decode cL_law 255 = .ok (.iconst 1, 1) := by decide +kernel
set_option maxRecDepth 20000 in
theorem dL_law_256 : decode cL_law 256 = .ok (.iadd, 1) := by decide +kernel
set_option maxRecDepth 20000 in
theorem dL_law_257 : decode cL_law 257 = .ok (.iaload, 1) := by decide +kernel
set_option maxRecDepth 20000 in
theorem dL_law_258 : decode cL_law 258 = .ok (.aload_n 0, 1) := by decide +kernel
set_option maxRecDepth 20000 in
theorem dL_law_259 : decode cL_law 259 = .ok (.iload_n 3, 1) := by decide +kernel
set_option maxRecDepth 20000 in
theorem dL_law_260 : decode cL_law 260 = .ok (.iconst 2, 1) := by decide +kernel
set_option maxRecDepth 20000 in
theorem dL_law_261 : decode cL_law 261 = .ok (.iadd, 1) := by decide +kernel
set_option maxRecDepth 20000 in
theorem dL_law_262 : decode cL_law 262 = .ok (.iaload, 1) := by decide +kernel
set_option maxRecDepth 20000 in
theorem dL_law_263 : decode cL_law 263 = .ok (.aload_n 0, 1) := by decide +kernel
set_option maxRecDepth 20000 in
theorem dL_law_264 : decode cL_law 264 = .ok (.iload_n 3, 1) := by decide +kernel
set_option maxRecDepth 20000 in
theorem dL_law_265 : decode cL_law 265 = .ok (.iconst 3, 1) := by decide +kernel
set_option maxRecDepth 20000 in
theorem dL_law_266 : decode cL_law 266 = .ok (.iadd, 1) := by decide +kernel
set_option maxRecDepth 20000 in
theorem dL_law_267 : decode cL_law 267 = .ok (.iaload, 1) := by decide +kernel
set_option maxRecDepth 20000 in
theorem dL_law_268 : decode cL_law 268 = .ok (.invokevirtual 32, 3) := by decide +kernel
set_option maxRecDepth 20000 in
theorem dL_law_271 : decode cL_law 271 = .ok (.if_icmp .eq 785, 3) := by decide +kernel
set_option maxRecDepth 20000 in
theorem dL_law_274 : decode cL_law 274 = .ok (.iconst 0, 1) := by decide +kernel
set_option maxRecDepth 20000 in
theorem dL_law_275 : decode cL_law 275 = .ok (.ireturn, 1) := by decide +kernel
set_option maxRecDepth 20000 in
theorem dL_law_276 : decode cL_law 276 = .ok (.aload_n 1, 1) := by decide +kernel
set_option maxRecDepth 20000 in
theorem dL_law_277 : decode cL_law 277 = .ok (.aload_n 0, 1) := by decide +kernel
set_option maxRecDepth 20000 in
theorem dL_law_278 : decode cL_law 278 = .ok (.iload_n 3, 1) := by decide +kernel
set_option maxRecDepth 20000 in
theorem dL_law_279 : decode cL_law 279 = .ok (.iconst 1, 1) := by decide +kernel
set_option maxRecDepth 20000 in
theorem dL_law_280 : decode cL_law 280 = .ok (.iadd, 1) := by decide +kernel
set_option maxRecDepth 20000 in
theorem dL_law_281 : decode cL_law 281 = .ok (.iaload, 1) := by decide +kernel
set_option maxRecDepth 20000 in
theorem dL_law_282 : decode cL_law 282 = .ok (.aload_n 0, 1) := by decide +kernel
set_option maxRecDepth 20000 in
theorem dL_law_283 : decode cL_law 283 = .ok (.iload_n 3, 1) := by decide +kernel
set_option maxRecDepth 20000 in
theorem dL_law_284 : decode cL_law 284 = .ok (.iconst 2, 1) := by decide +kernel
set_option maxRecDepth 20000 in
theorem dL_law_285 : decode cL_law 285 = .ok (.iadd, 1) := by decide +kernel
set_option maxRecDepth 20000 in
theorem dL_law_286 : decode cL_law 286 = .ok (.iaload, 1) := by decide +kernel
set_option maxRecDepth 20000 in
theorem dL_law_287 : decode cL_law 287 = .ok (.invokevirtual 33, 3) := by decide +kernel
set_option maxRecDepth 20000 in
theorem dL_law_290 : decode cL_law 290 = .ok (.aload_n 2, 1) := by decide +kernel
set_option maxRecDepth 20000 in
theorem dL_law_291 : decode cL_law 291 = .ok (.aload_n 0, 1) := by decide +kernel
set_option maxRecDepth 20000 in
theorem dL_law_292 : decode cL_law 292 = .ok (.iload_n 3, 1) := by decide +kernel
set_option maxRecDepth 20000 in
theorem dL_law_293 : decode cL_law 293 = .ok (.iconst 1, 1) := by decide +kernel
set_option maxRecDepth 20000 in
theorem dL_law_294 : decode cL_law 294 = .ok (.iadd, 1) := by decide +kernel
set_option maxRecDepth 20000 in
theorem dL_law_295 : decode cL_law 295 = .ok (.iaload, 1) := by decide +kernel
set_option maxRecDepth 20000 in
theorem dL_law_296 : decode cL_law 296 = .ok (.aload_n 0, 1) := by decide +kernel
set_option maxRecDepth 20000 in
theorem dL_law_297 : decode cL_law 297 = .ok (.iload_n 3, 1) := by decide +kernel
set_option maxRecDepth 20000 in
theorem dL_law_298 : decode cL_law 298 = .ok (.iconst 2, 1) := by decide +kernel
set_option maxRecDepth 20000 in
theorem dL_law_299 : decode cL_law 299 = .ok (.iadd, 1) := by decide +kernel
set_option maxRecDepth 20000 in
theorem dL_law_300 : decode cL_law 300 = .ok (.iaload, 1) := by decide +kernel
set_option maxRecDepth 20000 in
theorem dL_law_301 : decode cL_law 301 = .ok (.invokevirtual 36, 3) := by decide +kernel
set_option maxRecDepth 20000 in
theorem dL_law_304 : decode cL_law 304 = .ok (.if_icmp .eq 752, 3) := by decide +kernel
set_option maxRecDepth 20000 in
theorem dL_law_307 : decode cL_law 307 = .ok (.iconst 0, 1) := by decide +kernel
set_option maxRecDepth 20000 in
theorem dL_law_308 : decode cL_law 308 = .ok (.ireturn, 1) := by decide +kernel
set_option maxRecDepth 20000 in
theorem dL_law_309 : decode cL_law 309 = .ok (.aload_n 1, 1) := by decide +kernel
set_option maxRecDepth 20000 in
theorem dL_law_310 : decode cL_law 310 = .ok (.invokevirtual 37, 3) := by decide +kernel
set_option maxRecDepth 20000 in
theorem dL_law_313 : decode cL_law 313 = .ok (.aload_n 2, 1) := by decide +kernel
set_option maxRecDepth 20000 in
theorem dL_law_314 : decode cL_law 314 = .ok (.invokevirtual 41, 3) := by decide +kernel
set_option maxRecDepth 20000 in
theorem dL_law_317 : decode cL_law 317 = .ok (.lcmp, 1) := by decide +kernel
set_option maxRecDepth 20000 in
theorem dL_law_318 : decode cL_law 318 = .ok (.ifCond .eq 738, 3) := by decide +kernel
set_option maxRecDepth 20000 in
theorem dL_law_321 : decode cL_law 321 = .ok (.iconst 0, 1) := by decide +kernel
set_option maxRecDepth 20000 in
theorem dL_law_322 : decode cL_law 322 = .ok (.ireturn, 1) := by decide +kernel
set_option maxRecDepth 20000 in
theorem dL_law_323 : decode cL_law 323 = .ok (.aload_n 1, 1) := by decide +kernel
set_option maxRecDepth 20000 in
theorem dL_law_324 : decode cL_law 324 = .ok (.aload_n 0, 1) := by decide +kernel
set_option maxRecDepth 20000 in
theorem dL_law_325 : decode cL_law 325 = .ok (.iload_n 3, 1) := by decide +kernel
set_option maxRecDepth 20000 in
theorem dL_law_326 : decode cL_law 326 = .ok (.iconst 1, 1) := by decide +kernel
set_option maxRecDepth 20000 in
theorem dL_law_327 : decode cL_law 327 = .ok (.iadd, 1) := by decide +kernel
set_option maxRecDepth 20000 in
theorem dL_law_328 : decode cL_law 328 = .ok (.iaload, 1) := by decide +kernel
set_option maxRecDepth 20000 in
theorem dL_law_329 : decode cL_law 329 = .ok (.i2l, 1) := by decide +kernel
set_option maxRecDepth 20000 in
theorem dL_law_330 : decode cL_law 330 = .ok (.bipush 32, 2) := by decide +kernel
set_option maxRecDepth 20000 in
theorem dL_law_332 : decode cL_law 332 = .ok (.lshl, 1) := by decide +kernel
set_option maxRecDepth 20000 in
theorem dL_law_333 : decode cL_law 333 = .ok (.aload_n 0, 1) := by decide +kernel
set_option maxRecDepth 20000 in
theorem dL_law_334 : decode cL_law 334 = .ok (.iload_n 3, 1) := by decide +kernel
set_option maxRecDepth 20000 in
theorem dL_law_335 : decode cL_law 335 = .ok (.iconst 2, 1) := by decide +kernel
set_option maxRecDepth 20000 in
theorem dL_law_336 : decode cL_law 336 = .ok (.iadd, 1) := by decide +kernel
set_option maxRecDepth 20000 in
theorem dL_law_337 : decode cL_law 337 = .ok (.iaload, 1) := by decide +kernel
set_option maxRecDepth 20000 in
theorem dL_law_338 : decode cL_law 338 = .ok (.i2l, 1) := by decide +kernel
set_option maxRecDepth 20000 in
theorem dL_law_339 : decode cL_law 339 = .ok (.ldc2_w 42, 3) := by decide +kernel
set_option maxRecDepth 20000 in
theorem dL_law_342 : decode cL_law 342 = .ok (.land, 1) := by decide +kernel
set_option maxRecDepth 20000 in
theorem dL_law_343 : decode cL_law 343 = .ok (.lor, 1) := by decide +kernel
set_option maxRecDepth 20000 in
theorem dL_law_344 : decode cL_law 344 = .ok (.aload_n 0, 1) := by decide +kernel
set_option maxRecDepth 20000 in
theorem dL_law_345 : decode cL_law 345 = .ok (.iload_n 3, 1) := by decide +kernel
set_option maxRecDepth 20000 in
theorem dL_law_346 : decode cL_law 346 = .ok (.iconst 3, 1) := by decide +kernel
set_option maxRecDepth 20000 in
theorem dL_law_347 : decode cL_law 347 = .ok (.iadd, 1) := by decide +kernel
set_option maxRecDepth 20000 in
theorem dL_law_348 : decode cL_law 348 = .ok (.iaload, 1) := by decide +kernel
set_option maxRecDepth 20000 in
theorem dL_law_349 : decode cL_law 349 = .ok (.invokevirtual 44, 3) := by decide +kernel
set_option maxRecDepth 20000 in
theorem dL_law_352 : decode cL_law 352 = .ok (.aload_n 2, 1) := by decide +kernel
set_option maxRecDepth 20000 in
theorem dL_law_353 : decode cL_law 353 = .ok (.aload_n 0, 1) := by decide +kernel
set_option maxRecDepth 20000 in
theorem dL_law_354 : decode cL_law 354 = .ok (.iload_n 3, 1) := by decide +kernel
set_option maxRecDepth 20000 in
theorem dL_law_355 : decode cL_law 355 = .ok (.iconst 1, 1) := by decide +kernel
set_option maxRecDepth 20000 in
theorem dL_law_356 : decode cL_law 356 = .ok (.iadd, 1) := by decide +kernel
set_option maxRecDepth 20000 in
theorem dL_law_357 : decode cL_law 357 = .ok (.iaload, 1) := by decide +kernel
set_option maxRecDepth 20000 in
theorem dL_law_358 : decode cL_law 358 = .ok (.i2l, 1) := by decide +kernel
set_option maxRecDepth 20000 in
theorem dL_law_359 : decode cL_law 359 = .ok (.bipush 32, 2) := by decide +kernel
set_option maxRecDepth 20000 in
theorem dL_law_361 : decode cL_law 361 = .ok (.lshl, 1) := by decide +kernel
set_option maxRecDepth 20000 in
theorem dL_law_362 : decode cL_law 362 = .ok (.aload_n 0, 1) := by decide +kernel
set_option maxRecDepth 20000 in
theorem dL_law_363 : decode cL_law 363 = .ok (.iload_n 3, 1) := by decide +kernel
set_option maxRecDepth 20000 in
theorem dL_law_364 : decode cL_law 364 = .ok (.iconst 2, 1) := by decide +kernel
set_option maxRecDepth 20000 in
theorem dL_law_365 : decode cL_law 365 = .ok (.iadd, 1) := by decide +kernel
set_option maxRecDepth 20000 in
theorem dL_law_366 : decode cL_law 366 = .ok (.iaload, 1) := by decide +kernel
set_option maxRecDepth 20000 in
theorem dL_law_367 : decode cL_law 367 = .ok (.i2l, 1) := by decide +kernel
set_option maxRecDepth 20000 in
theorem dL_law_368 : decode cL_law 368 = .ok (.ldc2_w 42, 3) := by decide +kernel
set_option maxRecDepth 20000 in
theorem dL_law_371 : decode cL_law 371 = .ok (.land, 1) := by decide +kernel
set_option maxRecDepth 20000 in
theorem dL_law_372 : decode cL_law 372 = .ok (.lor, 1) := by decide +kernel
set_option maxRecDepth 20000 in
theorem dL_law_373 : decode cL_law 373 = .ok (.aload_n 0, 1) := by decide +kernel
set_option maxRecDepth 20000 in
theorem dL_law_374 : decode cL_law 374 = .ok (.iload_n 3, 1) := by decide +kernel
set_option maxRecDepth 20000 in
theorem dL_law_375 : decode cL_law 375 = .ok (.iconst 3, 1) := by decide +kernel
set_option maxRecDepth 20000 in
theorem dL_law_376 : decode cL_law 376 = .ok (.iadd, 1) := by decide +kernel
set_option maxRecDepth 20000 in
theorem dL_law_377 : decode cL_law 377 = .ok (.iaload, 1) := by decide +kernel
set_option maxRecDepth 20000 in
theorem dL_law_378 : decode cL_law 378 = .ok (.invokevirtual 48, 3) := by decide +kernel
set_option maxRecDepth 20000 in
theorem dL_law_381 : decode cL_law 381 = .ok (.if_icmp .eq 675, 3) := by decide +kernel
set_option maxRecDepth 20000 in
theorem dL_law_384 : decode cL_law 384 = .ok (.iconst 0, 1) := by decide +kernel
set_option maxRecDepth 20000 in
theorem dL_law_385 : decode cL_law 385 = .ok (.ireturn, 1) := by decide +kernel
set_option maxRecDepth 20000 in
theorem dL_law_386 : decode cL_law 386 = .ok (.aload_n 1, 1) := by decide +kernel
set_option maxRecDepth 20000 in
theorem dL_law_387 : decode cL_law 387 = .ok (.aload_n 0, 1) := by decide +kernel
set_option maxRecDepth 20000 in
theorem dL_law_388 : decode cL_law 388 = .ok (.iload_n 3, 1) := by decide +kernel
set_option maxRecDepth 20000 in
theorem dL_law_389 : decode cL_law 389 = .ok (.iconst 1, 1) := by decide +kernel
set_option maxRecDepth 20000 in
theorem dL_law_390 : decode cL_law 390 = .ok (.iadd, 1) := by decide +kernel
set_option maxRecDepth 20000 in
theorem dL_law_391 : decode cL_law 391 = .ok (.iaload, 1) := by decide +kernel
set_option maxRecDepth 20000 in
theorem dL_law_392 : decode cL_law 392 = .ok (.aload_n 0, 1) := by decide +kernel
set_option maxRecDepth 20000 in
theorem dL_law_393 : decode cL_law 393 = .ok (.iload_n 3, 1) := by decide +kernel
set_option maxRecDepth 20000 in
theorem dL_law_394 : decode cL_law 394 = .ok (.iconst 2, 1) := by decide +kernel
set_option maxRecDepth 20000 in
theorem dL_law_395 : decode cL_law 395 = .ok (.iadd, 1) := by decide +kernel
set_option maxRecDepth 20000 in
theorem dL_law_396 : decode cL_law 396 = .ok (.iaload, 1) := by decide +kernel
set_option maxRecDepth 20000 in
theorem dL_law_397 : decode cL_law 397 = .ok (.aload_n 0, 1) := by decide +kernel
set_option maxRecDepth 20000 in
theorem dL_law_398 : decode cL_law 398 = .ok (.iload_n 3, 1) := by decide +kernel
set_option maxRecDepth 20000 in
theorem dL_law_399 : decode cL_law 399 = .ok (.iconst 3, 1) := by decide +kernel
set_option maxRecDepth 20000 in
theorem dL_law_400 : decode cL_law 400 = .ok (.iadd, 1) := by decide +kernel
set_option maxRecDepth 20000 in
theorem dL_law_401 : decode cL_law 401 = .ok (.iaload, 1) := by decide +kernel
set_option maxRecDepth 20000 in
theorem dL_law_402 : decode cL_law 402 = .ok (.invokevirtual 49, 3) := by decide +kernel
set_option maxRecDepth 20000 in
theorem dL_law_405 : decode cL_law 405 = .ok (.aload_n 2, 1) := by decide +kernel
set_option maxRecDepth 20000 in
theorem dL_law_406 : decode cL_law 406 = .ok (.aload_n 0, 1) := by decide +kernel
set_option maxRecDepth 20000 in
theorem dL_law_407 : decode cL_law 407 = .ok (.iload_n 3, 1) := by decide +kernel
set_option maxRecDepth 20000 in
theorem dL_law_408 : decode cL_law 408 = .ok (.iconst 1, 1) := by decide +kernel
set_option maxRecDepth 20000 in
theorem dL_law_409 : decode cL_law 409 = .ok (.iadd, 1) := by decide +kernel
set_option maxRecDepth 20000 in
theorem dL_law_410 : decode cL_law 410 = .ok (.iaload, 1) := by decide +kernel
set_option maxRecDepth 20000 in
theorem dL_law_411 : decode cL_law 411 = .ok (.aload_n 0, 1) := by decide +kernel
set_option maxRecDepth 20000 in
theorem dL_law_412 : decode cL_law 412 = .ok (.iload_n 3, 1) := by decide +kernel
set_option maxRecDepth 20000 in
theorem dL_law_413 : decode cL_law 413 = .ok (.iconst 2, 1) := by decide +kernel
set_option maxRecDepth 20000 in
theorem dL_law_414 : decode cL_law 414 = .ok (.iadd, 1) := by decide +kernel
set_option maxRecDepth 20000 in
theorem dL_law_415 : decode cL_law 415 = .ok (.iaload, 1) := by decide +kernel
set_option maxRecDepth 20000 in
theorem dL_law_416 : decode cL_law 416 = .ok (.aload_n 0, 1) := by decide +kernel
set_option maxRecDepth 20000 in
theorem dL_law_417 : decode cL_law 417 = .ok (.iload_n 3, 1) := by decide +kernel
set_option maxRecDepth 20000 in
theorem dL_law_418 : decode cL_law 418 = .ok (.iconst 3, 1) := by decide +kernel
set_option maxRecDepth 20000 in
theorem dL_law_419 : decode cL_law 419 = .ok (.iadd, 1) := by decide +kernel
set_option maxRecDepth 20000 in
theorem dL_law_420 : decode cL_law 420 = .ok (.iaload, 1) := by decide +kernel
set_option maxRecDepth 20000 in
theorem dL_law_421 : decode cL_law 421 = .ok (.invokevirtual 52, 3) := by decide +kernel
set_option maxRecDepth 20000 in
theorem dL_law_424 : decode cL_law 424 = .ok (.if_icmp .eq 632, 3) := by decide +kernel
set_option maxRecDepth 20000 in
theorem dL_law_427 : decode cL_law 427 = .ok (.iconst 0, 1) := by decide +kernel
set_option maxRecDepth 20000 in
theorem dL_law_428 : decode cL_law 428 = .ok (.ireturn, 1) := by decide +kernel
set_option maxRecDepth 20000 in
theorem dL_law_429 : decode cL_law 429 = .ok (.aload_n 1, 1) := by decide +kernel
set_option maxRecDepth 20000 in
theorem dL_law_430 : decode cL_law 430 = .ok (.aload_n 0, 1) := by decide +kernel
set_option maxRecDepth 20000 in
theorem dL_law_431 : decode cL_law 431 = .ok (.iload_n 3, 1) := by decide +kernel
set_option maxRecDepth 20000 in
theorem dL_law_432 : decode cL_law 432 = .ok (.iconst 1, 1) := by decide +kernel
set_option maxRecDepth 20000 in
theorem dL_law_433 : decode cL_law 433 = .ok (.iadd, 1) := by decide +kernel
set_option maxRecDepth 20000 in
theorem dL_law_434 : decode cL_law 434 = .ok (.iaload, 1) := by decide +kernel
set_option maxRecDepth 20000 in
theorem dL_law_435 : decode cL_law 435 = .ok (.aload_n 0, 1) := by decide +kernel
set_option maxRecDepth 20000 in
theorem dL_law_436 : decode cL_law 436 = .ok (.iload_n 3, 1) := by decide +kernel
set_option maxRecDepth 20000 in
theorem dL_law_437 : decode cL_law 437 = .ok (.iconst 2, 1) := by decide +kernel
set_option maxRecDepth 20000 in
theorem dL_law_438 : decode cL_law 438 = .ok (.iadd, 1) := by decide +kernel
set_option maxRecDepth 20000 in
theorem dL_law_439 : decode cL_law 439 = .ok (.iaload, 1) := by decide +kernel
set_option maxRecDepth 20000 in
theorem dL_law_440 : decode cL_law 440 = .ok (.invokevirtual 53, 3) := by decide +kernel
set_option maxRecDepth 20000 in
theorem dL_law_443 : decode cL_law 443 = .ok (.aload_n 2, 1) := by decide +kernel
set_option maxRecDepth 20000 in
theorem dL_law_444 : decode cL_law 444 = .ok (.aload_n 0, 1) := by decide +kernel
set_option maxRecDepth 20000 in
theorem dL_law_445 : decode cL_law 445 = .ok (.iload_n 3, 1) := by decide +kernel
set_option maxRecDepth 20000 in
theorem dL_law_446 : decode cL_law 446 = .ok (.iconst 1, 1) := by decide +kernel
set_option maxRecDepth 20000 in
theorem dL_law_447 : decode cL_law 447 = .ok (.iadd, 1) := by decide +kernel
set_option maxRecDepth 20000 in
theorem dL_law_448 : decode cL_law 448 = .ok (.iaload, 1) := by decide +kernel
set_option maxRecDepth 20000 in
theorem dL_law_449 : decode cL_law 449 = .ok (.aload_n 0, 1) := by decide +kernel
set_option maxRecDepth 20000 in
theorem dL_law_450 : decode cL_law 450 = .ok (.iload_n 3, 1) := by decide +kernel
set_option maxRecDepth 20000 in
theorem dL_law_451 : decode cL_law 451 = .ok (.iconst 2, 1) := by decide +kernel
set_option maxRecDepth 20000 in
theorem dL_law_452 : decode cL_law 452 = .ok (.iadd, 1) := by decide +kernel
set_option maxRecDepth 20000 in
theorem dL_law_453 : decode cL_law 453 = .ok (.iaload, 1) := by decide +kernel
set_option maxRecDepth 20000 in
theorem dL_law_454 : decode cL_law 454 = .ok (.invokevirtual 56, 3) := by decide +kernel
set_option maxRecDepth 20000 in
theorem dL_law_457 : decode cL_law 457 = .ok (.if_icmp .eq 599, 3) := by decide +kernel
set_option maxRecDepth 20000 in
theorem dL_law_460 : decode cL_law 460 = .ok (.iconst 0, 1) := by decide +kernel
set_option maxRecDepth 20000 in
theorem dL_law_461 : decode cL_law 461 = .ok (.ireturn, 1) := by decide +kernel
set_option maxRecDepth 20000 in
theorem dL_law_462 : decode cL_law 462 = .ok (.aload_n 1, 1) := by decide +kernel
set_option maxRecDepth 20000 in
theorem dL_law_463 : decode cL_law 463 = .ok (.aload_n 0, 1) := by decide +kernel
set_option maxRecDepth 20000 in
theorem dL_law_464 : decode cL_law 464 = .ok (.iload_n 3, 1) := by decide +kernel
set_option maxRecDepth 20000 in
theorem dL_law_465 : decode cL_law 465 = .ok (.iconst 1, 1) := by decide +kernel
set_option maxRecDepth 20000 in
theorem dL_law_466 : decode cL_law 466 = .ok (.iadd, 1) := by decide +kernel
set_option maxRecDepth 20000 in
theorem dL_law_467 : decode cL_law 467 = .ok (.iaload, 1) := by decide +kernel
set_option maxRecDepth 20000 in
theorem dL_law_468 : decode cL_law 468 = .ok (.aload_n 0, 1) := by decide +kernel
set_option maxRecDepth 20000 in
theorem dL_law_469 : decode cL_law 469 = .ok (.iload_n 3, 1) := by decide +kernel
set_option maxRecDepth 20000 in
theorem dL_law_470 : decode cL_law 470 = .ok (.iconst 2, 1) := by decide +kernel
set_option maxRecDepth 20000 in
theorem dL_law_471 : decode cL_law 471 = .ok (.iadd, 1) := by decide +kernel
set_option maxRecDepth 20000 in
theorem dL_law_472 : decode cL_law 472 = .ok (.iaload, 1) := by decide +kernel
set_option maxRecDepth 20000 in
theorem dL_law_473 : decode cL_law 473 = .ok (.invokevirtual 57, 3) := by decide +kernel
set_option maxRecDepth 20000 in
theorem dL_law_476 : decode cL_law 476 = .ok (.aload_n 2, 1) := by decide +kernel
set_option maxRecDepth 20000 in
theorem dL_law_477 : decode cL_law 477 = .ok (.aload_n 0, 1) := by decide +kernel
set_option maxRecDepth 20000 in
theorem dL_law_478 : decode cL_law 478 = .ok (.iload_n 3, 1) := by decide +kernel
set_option maxRecDepth 20000 in
theorem dL_law_479 : decode cL_law 479 = .ok (.iconst 1, 1) := by decide +kernel
set_option maxRecDepth 20000 in
theorem dL_law_480 : decode cL_law 480 = .ok (.iadd, 1) := by decide +kernel
set_option maxRecDepth 20000 in
theorem dL_law_481 : decode cL_law 481 = .ok (.iaload, 1) := by decide +kernel
set_option maxRecDepth 20000 in
theorem dL_law_482 : decode cL_law 482 = .ok (.aload_n 0, 1) := by decide +kernel
set_option maxRecDepth 20000 in
theorem dL_law_483 : decode cL_law 483 = .ok (.iload_n 3, 1) := by decide +kernel
set_option maxRecDepth 20000 in
theorem dL_law_484 : decode cL_law 484 = .ok (.iconst 2, 1) := by decide +kernel
set_option maxRecDepth 20000 in
theorem dL_law_485 : decode cL_law 485 = .ok (.iadd, 1) := by decide +kernel
set_option maxRecDepth 20000 in
theorem dL_law_486 : decode cL_law 486 = .ok (.iaload, 1) := by decide +kernel
set_option maxRecDepth 20000 in
theorem dL_law_487 : decode cL_law 487 = .ok (.invokevirtual 60, 3) := by decide +kernel
set_option maxRecDepth 20000 in
theorem dL_law_490 : decode cL_law 490 = .ok (.if_icmp .eq 566, 3) := by decide +kernel
set_option maxRecDepth 20000 in
theorem dL_law_493 : decode cL_law 493 = .ok (.iconst 0, 1) := by decide +kernel
set_option maxRecDepth 20000 in
theorem dL_law_494 : decode cL_law 494 = .ok (.ireturn, 1) := by decide +kernel
set_option maxRecDepth 20000 in
theorem dL_law_495 : decode cL_law 495 = .ok (.aload_n 1, 1) := by decide +kernel
set_option maxRecDepth 20000 in
theorem dL_law_496 : decode cL_law 496 = .ok (.aload_n 0, 1) := by decide +kernel
set_option maxRecDepth 20000 in
theorem dL_law_497 : decode cL_law 497 = .ok (.iload_n 3, 1) := by decide +kernel
set_option maxRecDepth 20000 in
theorem dL_law_498 : decode cL_law 498 = .ok (.iconst 1, 1) := by decide +kernel
set_option maxRecDepth 20000 in
theorem dL_law_499 : decode cL_law 499 = .ok (.iadd, 1) := by decide +kernel
set_option maxRecDepth 20000 in
theorem dL_law_500 : decode cL_law 500 = .ok (.iaload, 1) := by decide +kernel
set_option maxRecDepth 20000 in
theorem dL_law_501 : decode cL_law 501 = .ok (.invokevirtual 61, 3) := by decide +kernel
set_option maxRecDepth 20000 in
theorem dL_law_504 : decode cL_law 504 = .ok (.aload_n 2, 1) := by decide +kernel
set_option maxRecDepth 20000 in
theorem dL_law_505 : decode cL_law 505 = .ok (.aload_n 0, 1) := by decide +kernel
set_option maxRecDepth 20000 in
theorem dL_law_506 : decode cL_law 506 = .ok (.iload_n 3, 1) := by decide +kernel
set_option maxRecDepth 20000 in
theorem dL_law_507 : decode cL_law 507 = .ok (.iconst 1, 1) := by decide +kernel
set_option maxRecDepth 20000 in
theorem dL_law_508 : decode cL_law 508 = .ok (.iadd, 1) := by decide +kernel
set_option maxRecDepth 20000 in
theorem dL_law_509 : decode cL_law 509 = .ok (.iaload, 1) := by decide +kernel
set_option maxRecDepth 20000 in
theorem dL_law_510 : decode cL_law 510 = .ok (.invokevirtual 65, 3) := by decide +kernel
set_option maxRecDepth 20000 in
theorem dL_law_513 : decode cL_law 513 = .ok (.lcmp, 1) := by decide +kernel
set_option maxRecDepth 20000 in
theorem dL_law_514 : decode cL_law 514 = .ok (.ifCond .eq 542, 3) := by decide +kernel
set_option maxRecDepth 20000 in
theorem dL_law_517 : decode cL_law 517 = .ok (.iconst 0, 1) := by decide +kernel
set_option maxRecDepth 20000 in
theorem dL_law_518 : decode cL_law 518 = .ok (.ireturn, 1) := by decide +kernel
set_option maxRecDepth 20000 in
theorem dL_law_519 : decode cL_law 519 = .ok (.aload_n 1, 1) := by decide +kernel
set_option maxRecDepth 20000 in
theorem dL_law_520 : decode cL_law 520 = .ok (.aload_n 0, 1) := by decide +kernel
set_option maxRecDepth 20000 in
theorem dL_law_521 : decode cL_law 521 = .ok (.iload_n 3, 1) := by decide +kernel
set_option maxRecDepth 20000 in
theorem dL_law_522 : decode cL_law 522 = .ok (.iconst 1, 1) := by decide +kernel
set_option maxRecDepth 20000 in
theorem dL_law_523 : decode cL_law 523 = .ok (.iadd, 1) := by decide +kernel
set_option maxRecDepth 20000 in
theorem dL_law_524 : decode cL_law 524 = .ok (.iaload, 1) := by decide +kernel
set_option maxRecDepth 20000 in
theorem dL_law_525 : decode cL_law 525 = .ok (.aload_n 0, 1) := by decide +kernel
set_option maxRecDepth 20000 in
theorem dL_law_526 : decode cL_law 526 = .ok (.iload_n 3, 1) := by decide +kernel
set_option maxRecDepth 20000 in
theorem dL_law_527 : decode cL_law 527 = .ok (.iconst 2, 1) := by decide +kernel
set_option maxRecDepth 20000 in
theorem dL_law_528 : decode cL_law 528 = .ok (.iadd, 1) := by decide +kernel
set_option maxRecDepth 20000 in
theorem dL_law_529 : decode cL_law 529 = .ok (.iaload, 1) := by decide +kernel
set_option maxRecDepth 20000 in
theorem dL_law_530 : decode cL_law 530 = .ok (.invokevirtual 66, 3) := by decide +kernel
set_option maxRecDepth 20000 in
theorem dL_law_533 : decode cL_law 533 = .ok (.aload_n 2, 1) := by decide +kernel
set_option maxRecDepth 20000 in
theorem dL_law_534 : decode cL_law 534 = .ok (.aload_n 0, 1) := by decide +kernel
set_option maxRecDepth 20000 in
theorem dL_law_535 : decode cL_law 535 = .ok (.iload_n 3, 1) := by decide +kernel
set_option maxRecDepth 20000 in
theorem dL_law_536 : decode cL_law 536 = .ok (.iconst 1, 1) := by decide +kernel
set_option maxRecDepth 20000 in
theorem dL_law_537 : decode cL_law 537 = .ok (.iadd, 1) := by decide +kernel
set_option maxRecDepth 20000 in
theorem dL_law_538 : decode cL_law 538 = .ok (.iaload, 1) := by decide +kernel
set_option maxRecDepth 20000 in
theorem dL_law_539 : decode cL_law 539 = .ok (.aload_n 0, 1) := by decide +kernel
set_option maxRecDepth 20000 in
theorem dL_law_540 : decode cL_law 540 = .ok (.iload_n 3, 1) := by decide +kernel
set_option maxRecDepth 20000 in
theorem dL_law_541 : decode cL_law 541 = .ok (.iconst 2, 1) := by decide +kernel
set_option maxRecDepth 20000 in
theorem dL_law_542 : decode cL_law 542 = .ok (.iadd, 1) := by decide +kernel
set_option maxRecDepth 20000 in
theorem dL_law_543 : decode cL_law 543 = .ok (.iaload, 1) := by decide +kernel
set_option maxRecDepth 20000 in
theorem dL_law_544 : decode cL_law 544 = .ok (.invokevirtual 69, 3) := by decide +kernel
set_option maxRecDepth 20000 in
theorem dL_law_547 : decode cL_law 547 = .ok (.if_icmp .eq 509, 3) := by decide +kernel
set_option maxRecDepth 20000 in
theorem dL_law_550 : decode cL_law 550 = .ok (.iconst 0, 1) := by decide +kernel
set_option maxRecDepth 20000 in
theorem dL_law_551 : decode cL_law 551 = .ok (.ireturn, 1) := by decide +kernel
set_option maxRecDepth 20000 in
theorem dL_law_552 : decode cL_law 552 = .ok (.aload_n 1, 1) := by decide +kernel
set_option maxRecDepth 20000 in
theorem dL_law_553 : decode cL_law 553 = .ok (.aload_n 0, 1) := by decide +kernel
set_option maxRecDepth 20000 in
theorem dL_law_554 : decode cL_law 554 = .ok (.iload_n 3, 1) := by decide +kernel
set_option maxRecDepth 20000 in
theorem dL_law_555 : decode cL_law 555 = .ok (.iconst 1, 1) := by decide +kernel
set_option maxRecDepth 20000 in
theorem dL_law_556 : decode cL_law 556 = .ok (.iadd, 1) := by decide +kernel
set_option maxRecDepth 20000 in
theorem dL_law_557 : decode cL_law 557 = .ok (.iaload, 1) := by decide +kernel
set_option maxRecDepth 20000 in
theorem dL_law_558 : decode cL_law 558 = .ok (.aload_n 0, 1) := by decide +kernel
set_option maxRecDepth 20000 in
theorem dL_law_559 : decode cL_law 559 = .ok (.iload_n 3, 1) := by decide +kernel
set_option maxRecDepth 20000 in
theorem dL_law_560 : decode cL_law 560 = .ok (.iconst 2, 1) := by decide +kernel
set_option maxRecDepth 20000 in
theorem dL_law_561 : decode cL_law 561 = .ok (.iadd, 1) := by decide +kernel
set_option maxRecDepth 20000 in
theorem dL_law_562 : decode cL_law 562 = .ok (.iaload, 1) := by decide +kernel
set_option maxRecDepth 20000 in
theorem dL_law_563 : decode cL_law 563 = .ok (.invokevirtual 70, 3) := by decide +kernel
set_option maxRecDepth 20000 in
theorem dL_law_566 : decode cL_law 566 = .ok (.aload_n 2, 1) := by decide +kernel
set_option maxRecDepth 20000 in
theorem dL_law_567 : decode cL_law 567 = .ok (.aload_n 0, 1) := by decide +kernel
set_option maxRecDepth 20000 in
theorem dL_law_568 : decode cL_law 568 = .ok (.iload_n 3, 1) := by decide +kernel
set_option maxRecDepth 20000 in
theorem dL_law_569 : decode cL_law 569 = .ok (.iconst 1, 1) := by decide +kernel
set_option maxRecDepth 20000 in
theorem dL_law_570 : decode cL_law 570 = .ok (.iadd, 1) := by decide +kernel
set_option maxRecDepth 20000 in
theorem dL_law_571 : decode cL_law 571 = .ok (.iaload, 1) := by decide +kernel
set_option maxRecDepth 20000 in
theorem dL_law_572 : decode cL_law 572 = .ok (.aload_n 0, 1) := by decide +kernel
set_option maxRecDepth 20000 in
theorem dL_law_573 : decode cL_law 573 = .ok (.iload_n 3, 1) := by decide +kernel
set_option maxRecDepth 20000 in
theorem dL_law_574 : decode cL_law 574 = .ok (.iconst 2, 1) := by decide +kernel
set_option maxRecDepth 20000 in
theorem dL_law_575 : decode cL_law 575 = .ok (.iadd, 1) := by decide +kernel
set_option maxRecDepth 20000 in
theorem dL_law_576 : decode cL_law 576 = .ok (.iaload, 1) := by decide +kernel
set_option maxRecDepth 20000 in
theorem dL_law_577 : decode cL_law 577 = .ok (.invokevirtual 73, 3) := by decide +kernel
set_option maxRecDepth 20000 in
theorem dL_law_580 : decode cL_law 580 = .ok (.if_icmp .eq 476, 3) := by decide +kernel
set_option maxRecDepth 20000 in
theorem dL_law_583 : decode cL_law 583 = .ok (.iconst 0, 1) := by decide +kernel
set_option maxRecDepth 20000 in
theorem dL_law_584 : decode cL_law 584 = .ok (.ireturn, 1) := by decide +kernel
set_option maxRecDepth 20000 in
theorem dL_law_585 : decode cL_law 585 = .ok (.aload_n 1, 1) := by decide +kernel
set_option maxRecDepth 20000 in
theorem dL_law_586 : decode cL_law 586 = .ok (.aload_n 0, 1) := by decide +kernel
set_option maxRecDepth 20000 in
theorem dL_law_587 : decode cL_law 587 = .ok (.iload_n 3, 1) := by decide +kernel
set_option maxRecDepth 20000 in
theorem dL_law_588 : decode cL_law 588 = .ok (.iconst 1, 1) := by decide +kernel
set_option maxRecDepth 20000 in
theorem dL_law_589 : decode cL_law 589 = .ok (.iadd, 1) := by decide +kernel
set_option maxRecDepth 20000 in
theorem dL_law_590 : decode cL_law 590 = .ok (.iaload, 1) := by decide +kernel
set_option maxRecDepth 20000 in
theorem dL_law_591 : decode cL_law 591 = .ok (.invokevirtual 74, 3) := by decide +kernel
set_option maxRecDepth 20000 in
theorem dL_law_594 : decode cL_law 594 = .ok (.aload_n 2, 1) := by decide +kernel
set_option maxRecDepth 20000 in
theorem dL_law_595 : decode cL_law 595 = .ok (.aload_n 0, 1) := by decide +kernel
set_option maxRecDepth 20000 in
theorem dL_law_596 : decode cL_law 596 = .ok (.iload_n 3, 1) := by decide +kernel
set_option maxRecDepth 20000 in
theorem dL_law_597 : decode cL_law 597 = .ok (.iconst 1, 1) := by decide +kernel
set_option maxRecDepth 20000 in
theorem dL_law_598 : decode cL_law 598 = .ok (.iadd, 1) := by decide +kernel
set_option maxRecDepth 20000 in
theorem dL_law_599 : decode cL_law 599 = .ok (.iaload, 1) := by decide +kernel
set_option maxRecDepth 20000 in
theorem dL_law_600 : decode cL_law 600 = .ok (.invokevirtual 77, 3) := by decide +kernel
set_option maxRecDepth 20000 in
theorem dL_law_603 : decode cL_law 603 = .ok (.if_icmp .eq 453, 3) := by decide +kernel
set_option maxRecDepth 20000 in
theorem dL_law_606 : decode cL_law 606 = .ok (.iconst 0, 1) := by decide +kernel
set_option maxRecDepth 20000 in
theorem dL_law_607 : decode cL_law 607 = .ok (.ireturn, 1) := by decide +kernel
set_option maxRecDepth 20000 in
theorem dL_law_608 : decode cL_law 608 = .ok (.aload_n 1, 1) := by decide +kernel
set_option maxRecDepth 20000 in
theorem dL_law_609 : decode cL_law 609 = .ok (.aload_n 0, 1) := by decide +kernel
set_option maxRecDepth 20000 in
theorem dL_law_610 : decode cL_law 610 = .ok (.iload_n 3, 1) := by decide +kernel
set_option maxRecDepth 20000 in
theorem dL_law_611 : decode cL_law 611 = .ok (.iconst 1, 1) := by decide +kernel
set_option maxRecDepth 20000 in
theorem dL_law_612 : decode cL_law 612 = .ok (.iadd, 1) := by decide +kernel
set_option maxRecDepth 20000 in
theorem dL_law_613 : decode cL_law 613 = .ok (.iaload, 1) := by decide +kernel
set_option maxRecDepth 20000 in
theorem dL_law_614 : decode cL_law 614 = .ok (.aload_n 0, 1) := by decide +kernel
set_option maxRecDepth 20000 in
theorem dL_law_615 : decode cL_law 615 = .ok (.iload_n 3, 1) := by decide +kernel
set_option maxRecDepth 20000 in
theorem dL_law_616 : decode cL_law 616 = .ok (.iconst 2, 1) := by decide +kernel
set_option maxRecDepth 20000 in
theorem dL_law_617 : decode cL_law 617 = .ok (.iadd, 1) := by decide +kernel
set_option maxRecDepth 20000 in
theorem dL_law_618 : decode cL_law 618 = .ok (.iaload, 1) := by decide +kernel
set_option maxRecDepth 20000 in
theorem dL_law_619 : decode cL_law 619 = .ok (.invokevirtual 78, 3) := by decide +kernel
set_option maxRecDepth 20000 in
theorem dL_law_622 : decode cL_law 622 = .ok (.aload_n 2, 1) := by decide +kernel
set_option maxRecDepth 20000 in
theorem dL_law_623 : decode cL_law 623 = .ok (.aload_n 0, 1) := by decide +kernel
set_option maxRecDepth 20000 in
theorem dL_law_624 : decode cL_law 624 = .ok (.iload_n 3, 1) := by decide +kernel
set_option maxRecDepth 20000 in
theorem dL_law_625 : decode cL_law 625 = .ok (.iconst 1, 1) := by decide +kernel
set_option maxRecDepth 20000 in
theorem dL_law_626 : decode cL_law 626 = .ok (.iadd, 1) := by decide +kernel
set_option maxRecDepth 20000 in
theorem dL_law_627 : decode cL_law 627 = .ok (.iaload, 1) := by decide +kernel
set_option maxRecDepth 20000 in
theorem dL_law_628 : decode cL_law 628 = .ok (.aload_n 0, 1) := by decide +kernel
set_option maxRecDepth 20000 in
theorem dL_law_629 : decode cL_law 629 = .ok (.iload_n 3, 1) := by decide +kernel
set_option maxRecDepth 20000 in
theorem dL_law_630 : decode cL_law 630 = .ok (.iconst 2, 1) := by decide +kernel
set_option maxRecDepth 20000 in
theorem dL_law_631 : decode cL_law 631 = .ok (.iadd, 1) := by decide +kernel
set_option maxRecDepth 20000 in
theorem dL_law_632 : decode cL_law 632 = .ok (.iaload, 1) := by decide +kernel
set_option maxRecDepth 20000 in
theorem dL_law_633 : decode cL_law 633 = .ok (.invokevirtual 81, 3) := by decide +kernel
set_option maxRecDepth 20000 in
theorem dL_law_636 : decode cL_law 636 = .ok (.if_icmp .eq 420, 3) := by decide +kernel
set_option maxRecDepth 20000 in
theorem dL_law_639 : decode cL_law 639 = .ok (.iconst 0, 1) := by decide +kernel
set_option maxRecDepth 20000 in
theorem dL_law_640 : decode cL_law 640 = .ok (.ireturn, 1) := by decide +kernel
set_option maxRecDepth 20000 in
theorem dL_law_641 : decode cL_law 641 = .ok (.aload_n 1, 1) := by decide +kernel
set_option maxRecDepth 20000 in
theorem dL_law_642 : decode cL_law 642 = .ok (.aload_n 0, 1) := by decide +kernel
set_option maxRecDepth 20000 in
theorem dL_law_643 : decode cL_law 643 = .ok (.iload_n 3, 1) := by decide +kernel
set_option maxRecDepth 20000 in
theorem dL_law_644 : decode cL_law 644 = .ok (.iconst 1, 1) := by decide +kernel
set_option maxRecDepth 20000 in
theorem dL_law_645 : decode cL_law 645 = .ok (.iadd, 1) := by decide +kernel
set_option maxRecDepth 20000 in
theorem dL_law_646 : decode cL_law 646 = .ok (.iaload, 1) := by decide +kernel
set_option maxRecDepth 20000 in
theorem dL_law_647 : decode cL_law 647 = .ok (.invokevirtual 82, 3) := by decide +kernel
set_option maxRecDepth 20000 in
theorem dL_law_650 : decode cL_law 650 = .ok (.aload_n 2, 1) := by decide +kernel
set_option maxRecDepth 20000 in
theorem dL_law_651 : decode cL_law 651 = .ok (.aload_n 0, 1) := by decide +kernel
set_option maxRecDepth 20000 in
theorem dL_law_652 : decode cL_law 652 = .ok (.iload_n 3, 1) := by decide +kernel
set_option maxRecDepth 20000 in
theorem dL_law_653 : decode cL_law 653 = .ok (.iconst 1, 1) := by decide +kernel
set_option maxRecDepth 20000 in
theorem dL_law_654 : decode cL_law 654 = .ok (.iadd, 1) := by decide +kernel
set_option maxRecDepth 20000 in
theorem dL_law_655 : decode cL_law 655 = .ok (.iaload, 1) := by decide +kernel
set_option maxRecDepth 20000 in
theorem dL_law_656 : decode cL_law 656 = .ok (.invokevirtual 85, 3) := by decide +kernel
set_option maxRecDepth 20000 in
theorem dL_law_659 : decode cL_law 659 = .ok (.if_icmp .eq 397, 3) := by decide +kernel
set_option maxRecDepth 20000 in
theorem dL_law_662 : decode cL_law 662 = .ok (.iconst 0, 1) := by decide +kernel
set_option maxRecDepth 20000 in
theorem dL_law_663 : decode cL_law 663 = .ok (.ireturn, 1) := by decide +kernel
set_option maxRecDepth 20000 in
theorem dL_law_664 : decode cL_law 664 = .ok (.aload_n 1, 1) := by decide +kernel
set_option maxRecDepth 20000 in
theorem dL_law_665 : decode cL_law 665 = .ok (.aload_n 0, 1) := by decide +kernel
set_option maxRecDepth 20000 in
theorem dL_law_666 : decode cL_law 666 = .ok (.iload_n 3, 1) := by decide +kernel
set_option maxRecDepth 20000 in
theorem dL_law_667 : decode cL_law 667 = .ok (.iconst 1, 1) := by decide +kernel
set_option maxRecDepth 20000 in
theorem dL_law_668 : decode cL_law 668 = .ok (.iadd, 1) := by decide +kernel
set_option maxRecDepth 20000 in
theorem dL_law_669 : decode cL_law 669 = .ok (.iaload, 1) := by decide +kernel
set_option maxRecDepth 20000 in
theorem dL_law_670 : decode cL_law 670 = .ok (.invokevirtual 86, 3) := by decide +kernel
set_option maxRecDepth 20000 in
theorem dL_law_673 : decode cL_law 673 = .ok (.aload_n 2, 1) := by decide +kernel
set_option maxRecDepth 20000 in
theorem dL_law_674 : decode cL_law 674 = .ok (.aload_n 0, 1) := by decide +kernel
set_option maxRecDepth 20000 in
theorem dL_law_675 : decode cL_law 675 = .ok (.iload_n 3, 1) := by decide +kernel
set_option maxRecDepth 20000 in
theorem dL_law_676 : decode cL_law 676 = .ok (.iconst 1, 1) := by decide +kernel
set_option maxRecDepth 20000 in
theorem dL_law_677 : decode cL_law 677 = .ok (.iadd, 1) := by decide +kernel
set_option maxRecDepth 20000 in
theorem dL_law_678 : decode cL_law 678 = .ok (.iaload, 1) := by decide +kernel
set_option maxRecDepth 20000 in
theorem dL_law_679 : decode cL_law 679 = .ok (.invokevirtual 89, 3) := by decide +kernel
set_option maxRecDepth 20000 in
theorem dL_law_682 : decode cL_law 682 = .ok (.lcmp, 1) := by decide +kernel
set_option maxRecDepth 20000 in
theorem dL_law_683 : decode cL_law 683 = .ok (.ifCond .eq 373, 3) := by decide +kernel
set_option maxRecDepth 20000 in
theorem dL_law_686 : decode cL_law 686 = .ok (.iconst 0, 1) := by decide +kernel
set_option maxRecDepth 20000 in
theorem dL_law_687 : decode cL_law 687 = .ok (.ireturn, 1) := by decide +kernel
set_option maxRecDepth 20000 in
theorem dL_law_688 : decode cL_law 688 = .ok (.aload_n 1, 1) := by decide +kernel
set_option maxRecDepth 20000 in
theorem dL_law_689 : decode cL_law 689 = .ok (.aload_n 0, 1) := by decide +kernel
set_option maxRecDepth 20000 in
theorem dL_law_690 : decode cL_law 690 = .ok (.iload_n 3, 1) := by decide +kernel
set_option maxRecDepth 20000 in
theorem dL_law_691 : decode cL_law 691 = .ok (.iconst 1, 1) := by decide +kernel
set_option maxRecDepth 20000 in
theorem dL_law_692 : decode cL_law 692 = .ok (.iadd, 1) := by decide +kernel
set_option maxRecDepth 20000 in
theorem dL_law_693 : decode cL_law 693 = .ok (.iaload, 1) := by decide +kernel
set_option maxRecDepth 20000 in
theorem dL_law_694 : decode cL_law 694 = .ok (.invokevirtual 90, 3) := by decide +kernel
set_option maxRecDepth 20000 in
theorem dL_law_697 : decode cL_law 697 = .ok (.aload_n 2, 1) := by decide +kernel
set_option maxRecDepth 20000 in
theorem dL_law_698 : decode cL_law 698 = .ok (.aload_n 0, 1) := by decide +kernel
set_option maxRecDepth 20000 in
theorem dL_law_699 : decode cL_law 699 = .ok (.iload_n 3, 1) := by decide +kernel
set_option maxRecDepth 20000 in
theorem dL_law_700 : decode cL_law 700 = .ok (.iconst 1, 1) := by decide +kernel
set_option maxRecDepth 20000 in
theorem dL_law_701 : decode cL_law 701 = .ok (.iadd, 1) := by decide +kernel
set_option maxRecDepth 20000 in
theorem dL_law_702 : decode cL_law 702 = .ok (.iaload, 1) := by decide +kernel
set_option maxRecDepth 20000 in
theorem dL_law_703 : decode cL_law 703 = .ok (.invokevirtual 93, 3) := by decide +kernel
set_option maxRecDepth 20000 in
theorem dL_law_706 : decode cL_law 706 = .ok (.if_icmp .eq 350, 3) := by decide +kernel
set_option maxRecDepth 20000 in
theorem dL_law_709 : decode cL_law 709 = .ok (.iconst 0, 1) := by decide +kernel
set_option maxRecDepth 20000 in
theorem dL_law_710 : decode cL_law 710 = .ok (.ireturn, 1) := by decide +kernel
set_option maxRecDepth 20000 in
theorem dL_law_711 : decode cL_law 711 = .ok (.aload_n 1, 1) := by decide +kernel
set_option maxRecDepth 20000 in
theorem dL_law_712 : decode cL_law 712 = .ok (.invokevirtual 94, 3) := by decide +kernel
set_option maxRecDepth 20000 in
theorem dL_law_715 : decode cL_law 715 = .ok (.aload_n 2, 1) := by decide +kernel
set_option maxRecDepth 20000 in
theorem dL_law_716 : decode cL_law 716 = .ok (.invokevirtual 97, 3) := by decide +kernel
set_option maxRecDepth 20000 in
theorem dL_law_719 : decode cL_law 719 = .ok (.lcmp, 1) := by decide +kernel
set_option maxRecDepth 20000 in
theorem dL_law_720 : decode cL_law 720 = .ok (.ifCond .eq 336, 3) := by decide +kernel
set_option maxRecDepth 20000 in
theorem dL_law_723 : decode cL_law 723 = .ok (.iconst 0, 1) := by decide +kernel
set_option maxRecDepth 20000 in
theorem dL_law_724 : decode cL_law 724 = .ok (.ireturn, 1) := by decide +kernel
set_option maxRecDepth 20000 in
theorem dL_law_725 : decode cL_law 725 = .ok (.aload_n 1, 1) := by decide +kernel
set_option maxRecDepth 20000 in
theorem dL_law_726 : decode cL_law 726 = .ok (.aload_n 0, 1) := by decide +kernel
set_option maxRecDepth 20000 in
theorem dL_law_727 : decode cL_law 727 = .ok (.iload_n 3, 1) := by decide +kernel
set_option maxRecDepth 20000 in
theorem dL_law_728 : decode cL_law 728 = .ok (.iconst 1, 1) := by decide +kernel
set_option maxRecDepth 20000 in
theorem dL_law_729 : decode cL_law 729 = .ok (.iadd, 1) := by decide +kernel
set_option maxRecDepth 20000 in
theorem dL_law_730 : decode cL_law 730 = .ok (.iaload, 1) := by decide +kernel
set_option maxRecDepth 20000 in
theorem dL_law_731 : decode cL_law 731 = .ok (.i2l, 1) := by decide +kernel
set_option maxRecDepth 20000 in
theorem dL_law_732 : decode cL_law 732 = .ok (.bipush 32, 2) := by decide +kernel
set_option maxRecDepth 20000 in
theorem dL_law_734 : decode cL_law 734 = .ok (.lshl, 1) := by decide +kernel
set_option maxRecDepth 20000 in
theorem dL_law_735 : decode cL_law 735 = .ok (.aload_n 0, 1) := by decide +kernel
set_option maxRecDepth 20000 in
theorem dL_law_736 : decode cL_law 736 = .ok (.iload_n 3, 1) := by decide +kernel
set_option maxRecDepth 20000 in
theorem dL_law_737 : decode cL_law 737 = .ok (.iconst 2, 1) := by decide +kernel
set_option maxRecDepth 20000 in
theorem dL_law_738 : decode cL_law 738 = .ok (.iadd, 1) := by decide +kernel
set_option maxRecDepth 20000 in
theorem dL_law_739 : decode cL_law 739 = .ok (.iaload, 1) := by decide +kernel
set_option maxRecDepth 20000 in
theorem dL_law_740 : decode cL_law 740 = .ok (.i2l, 1) := by decide +kernel
set_option maxRecDepth 20000 in
theorem dL_law_741 : decode cL_law 741 = .ok (.ldc2_w 42, 3) := by decide +kernel
set_option maxRecDepth 20000 in
theorem dL_law_744 : decode cL_law 744 = .ok (.land, 1) := by decide +kernel
set_option maxRecDepth 20000 in
theorem dL_law_745 : decode cL_law 745 = .ok (.lor, 1) := by decide +kernel
set_option maxRecDepth 20000 in
theorem dL_law_746 : decode cL_law 746 = .ok (.aload_n 0, 1) := by decide +kernel
set_option maxRecDepth 20000 in
theorem dL_law_747 : decode cL_law 747 = .ok (.iload_n 3, 1) := by decide +kernel
set_option maxRecDepth 20000 in
theorem dL_law_748 : decode cL_law 748 = .ok (.iconst 3, 1) := by decide +kernel
set_option maxRecDepth 20000 in
theorem dL_law_749 : decode cL_law 749 = .ok (.iadd, 1) := by decide +kernel
set_option maxRecDepth 20000 in
theorem dL_law_750 : decode cL_law 750 = .ok (.iaload, 1) := by decide +kernel
set_option maxRecDepth 20000 in
theorem dL_law_751 : decode cL_law 751 = .ok (.invokevirtual 98, 3) := by decide +kernel
set_option maxRecDepth 20000 in
theorem dL_law_754 : decode cL_law 754 = .ok (.aload_n 2, 1) := by decide +kernel
set_option maxRecDepth 20000 in
theorem dL_law_755 : decode cL_law 755 = .ok (.aload_n 0, 1) := by decide +kernel
set_option maxRecDepth 20000 in
theorem dL_law_756 : decode cL_law 756 = .ok (.iload_n 3, 1) := by decide +kernel
set_option maxRecDepth 20000 in
theorem dL_law_757 : decode cL_law 757 = .ok (.iconst 1, 1) := by decide +kernel
set_option maxRecDepth 20000 in
theorem dL_law_758 : decode cL_law 758 = .ok (.iadd, 1) := by decide +kernel
set_option maxRecDepth 20000 in
theorem dL_law_759 : decode cL_law 759 = .ok (.iaload, 1) := by decide +kernel
set_option maxRecDepth 20000 in
theorem dL_law_760 : decode cL_law 760 = .ok (.i2l, 1) := by decide +kernel
set_option maxRecDepth 20000 in
theorem dL_law_761 : decode cL_law 761 = .ok (.bipush 32, 2) := by decide +kernel
set_option maxRecDepth 20000 in
theorem dL_law_763 : decode cL_law 763 = .ok (.lshl, 1) := by decide +kernel
set_option maxRecDepth 20000 in
theorem dL_law_764 : decode cL_law 764 = .ok (.aload_n 0, 1) := by decide +kernel
set_option maxRecDepth 20000 in
theorem dL_law_765 : decode cL_law 765 = .ok (.iload_n 3, 1) := by decide +kernel
set_option maxRecDepth 20000 in
theorem dL_law_766 : decode cL_law 766 = .ok (.iconst 2, 1) := by decide +kernel
set_option maxRecDepth 20000 in
theorem dL_law_767 : decode cL_law 767 = .ok (.iadd, 1) := by decide +kernel
set_option maxRecDepth 20000 in
theorem dL_law_768 : decode cL_law 768 = .ok (.iaload, 1) := by decide +kernel
set_option maxRecDepth 20000 in
theorem dL_law_769 : decode cL_law 769 = .ok (.i2l, 1) := by decide +kernel
set_option maxRecDepth 20000 in
theorem dL_law_770 : decode cL_law 770 = .ok (.ldc2_w 42, 3) := by decide +kernel
set_option maxRecDepth 20000 in
theorem dL_law_773 : decode cL_law 773 = .ok (.land, 1) := by decide +kernel
set_option maxRecDepth 20000 in
theorem dL_law_774 : decode cL_law 774 = .ok (.lor, 1) := by decide +kernel
set_option maxRecDepth 20000 in
theorem dL_law_775 : decode cL_law 775 = .ok (.aload_n 0, 1) := by decide +kernel
set_option maxRecDepth 20000 in
theorem dL_law_776 : decode cL_law 776 = .ok (.iload_n 3, 1) := by decide +kernel
set_option maxRecDepth 20000 in
theorem dL_law_777 : decode cL_law 777 = .ok (.iconst 3, 1) := by decide +kernel
set_option maxRecDepth 20000 in
theorem dL_law_778 : decode cL_law 778 = .ok (.iadd, 1) := by decide +kernel
set_option maxRecDepth 20000 in
theorem dL_law_779 : decode cL_law 779 = .ok (.iaload, 1) := by decide +kernel
set_option maxRecDepth 20000 in
theorem dL_law_780 : decode cL_law 780 = .ok (.invokevirtual 101, 3) := by decide +kernel
set_option maxRecDepth 20000 in
theorem dL_law_783 : decode cL_law 783 = .ok (.if_icmp .eq 273, 3) := by decide +kernel
set_option maxRecDepth 20000 in
theorem dL_law_786 : decode cL_law 786 = .ok (.iconst 0, 1) := by decide +kernel
set_option maxRecDepth 20000 in
theorem dL_law_787 : decode cL_law 787 = .ok (.ireturn, 1) := by decide +kernel
set_option maxRecDepth 20000 in
theorem dL_law_788 : decode cL_law 788 = .ok (.aload_n 1, 1) := by decide +kernel
set_option maxRecDepth 20000 in
theorem dL_law_789 : decode cL_law 789 = .ok (.aload_n 0, 1) := by decide +kernel
set_option maxRecDepth 20000 in
theorem dL_law_790 : decode cL_law 790 = .ok (.iload_n 3, 1) := by decide +kernel
set_option maxRecDepth 20000 in
theorem dL_law_791 : decode cL_law 791 = .ok (.iconst 1, 1) := by decide +kernel
set_option maxRecDepth 20000 in
theorem dL_law_792 : decode cL_law 792 = .ok (.iadd, 1) := by decide +kernel
set_option maxRecDepth 20000 in
theorem dL_law_793 : decode cL_law 793 = .ok (.iaload, 1) := by decide +kernel
set_option maxRecDepth 20000 in
theorem dL_law_794 : decode cL_law 794 = .ok (.invokevirtual 102, 3) := by decide +kernel
set_option maxRecDepth 20000 in
theorem dL_law_797 : decode cL_law 797 = .ok (.aload_n 2, 1) := by decide +kernel
set_option maxRecDepth 20000 in
theorem dL_law_798 : decode cL_law 798 = .ok (.aload_n 0, 1) := by decide +kernel
set_option maxRecDepth 20000 in
theorem dL_law_799 : decode cL_law 799 = .ok (.iload_n 3, 1) := by decide +kernel
set_option maxRecDepth 20000 in
theorem dL_law_800 : decode cL_law 800 = .ok (.iconst 1, 1) := by decide +kernel
set_option maxRecDepth 20000 in
theorem dL_law_801 : decode cL_law 801 = .ok (.iadd, 1) := by decide +kernel
set_option maxRecDepth 20000 in
theorem dL_law_802 : decode cL_law 802 = .ok (.iaload, 1) := by decide +kernel
set_option maxRecDepth 20000 in
theorem dL_law_803 : decode cL_law 803 = .ok (.invokevirtual 105, 3) := by decide +kernel
set_option maxRecDepth 20000 in
theorem dL_law_806 : decode cL_law 806 = .ok (.if_icmp .eq 250, 3) := by decide +kernel
set_option maxRecDepth 20000 in
theorem dL_law_809 : decode cL_law 809 = .ok (.iconst 0, 1) := by decide +kernel
set_option maxRecDepth 20000 in
theorem dL_law_810 : decode cL_law 810 = .ok (.ireturn, 1) := by decide +kernel
set_option maxRecDepth 20000 in
theorem dL_law_811 : decode cL_law 811 = .ok (.aload_n 1, 1) := by decide +kernel
set_option maxRecDepth 20000 in
theorem dL_law_812 : decode cL_law 812 = .ok (.aload_n 0, 1) := by decide +kernel
set_option maxRecDepth 20000 in
theorem dL_law_813 : decode cL_law 813 = .ok (.iload_n 3, 1) := by decide +kernel
set_option maxRecDepth 20000 in
theorem dL_law_814 : decode cL_law 814 = .ok (.iconst 1, 1) := by decide +kernel
set_option maxRecDepth 20000 in
theorem dL_law_815 : decode cL_law 815 = .ok (.iadd, 1) := by decide +kernel
set_option maxRecDepth 20000 in
theorem dL_law_816 : decode cL_law 816 = .ok (.iaload, 1) := by decide +kernel
set_option maxRecDepth 20000 in
theorem dL_law_817 : decode cL_law 817 = .ok (.aload_n 0, 1) := by decide +kernel
set_option maxRecDepth 20000 in
theorem dL_law_818 : decode cL_law 818 = .ok (.iload_n 3, 1) := by decide +kernel
set_option maxRecDepth 20000 in
theorem dL_law_819 : decode cL_law 819 = .ok (.iconst 2, 1) := by decide +kernel
set_option maxRecDepth 20000 in
theorem dL_law_820 : decode cL_law 820 = .ok (.iadd, 1) := by decide +kernel
set_option maxRecDepth 20000 in
theorem dL_law_821 : decode cL_law 821 = .ok (.iaload, 1) := by decide +kernel
set_option maxRecDepth 20000 in
theorem dL_law_822 : decode cL_law 822 = .ok (.invokevirtual 106, 3) := by decide +kernel
set_option maxRecDepth 20000 in
theorem dL_law_825 : decode cL_law 825 = .ok (.aload_n 2, 1) := by decide +kernel
set_option maxRecDepth 20000 in
theorem dL_law_826 : decode cL_law 826 = .ok (.aload_n 0, 1) := by decide +kernel
set_option maxRecDepth 20000 in
theorem dL_law_827 : decode cL_law 827 = .ok (.iload_n 3, 1) := by decide +kernel
set_option maxRecDepth 20000 in
theorem dL_law_828 : decode cL_law 828 = .ok (.iconst 1, 1) := by decide +kernel
set_option maxRecDepth 20000 in
theorem dL_law_829 : decode cL_law 829 = .ok (.iadd, 1) := by decide +kernel
set_option maxRecDepth 20000 in
theorem dL_law_830 : decode cL_law 830 = .ok (.iaload, 1) := by decide +kernel
set_option maxRecDepth 20000 in
theorem dL_law_831 : decode cL_law 831 = .ok (.aload_n 0, 1) := by decide +kernel
set_option maxRecDepth 20000 in
theorem dL_law_832 : decode cL_law 832 = .ok (.iload_n 3, 1) := by decide +kernel
set_option maxRecDepth 20000 in
theorem dL_law_833 : decode cL_law 833 = .ok (.iconst 2, 1) := by decide +kernel
set_option maxRecDepth 20000 in
theorem dL_law_834 : decode cL_law 834 = .ok (.iadd, 1) := by decide +kernel
set_option maxRecDepth 20000 in
theorem dL_law_835 : decode cL_law 835 = .ok (.iaload, 1) := by decide +kernel
set_option maxRecDepth 20000 in
theorem dL_law_836 : decode cL_law 836 = .ok (.invokevirtual 109, 3) := by decide +kernel
set_option maxRecDepth 20000 in
theorem dL_law_839 : decode cL_law 839 = .ok (.if_icmp .eq 217, 3) := by decide +kernel
set_option maxRecDepth 20000 in
theorem dL_law_842 : decode cL_law 842 = .ok (.iconst 0, 1) := by decide +kernel
set_option maxRecDepth 20000 in
theorem dL_law_843 : decode cL_law 843 = .ok (.ireturn, 1) := by decide +kernel
set_option maxRecDepth 20000 in
theorem dL_law_844 : decode cL_law 844 = .ok (.aload_n 1, 1) := by decide +kernel
set_option maxRecDepth 20000 in
theorem dL_law_845 : decode cL_law 845 = .ok (.aload_n 0, 1) := by decide +kernel
set_option maxRecDepth 20000 in
theorem dL_law_846 : decode cL_law 846 = .ok (.iload_n 3, 1) := by decide +kernel
set_option maxRecDepth 20000 in
theorem dL_law_847 : decode cL_law 847 = .ok (.iconst 1, 1) := by decide +kernel
set_option maxRecDepth 20000 in
theorem dL_law_848 : decode cL_law 848 = .ok (.iadd, 1) := by decide +kernel
set_option maxRecDepth 20000 in
theorem dL_law_849 : decode cL_law 849 = .ok (.iaload, 1) := by decide +kernel
set_option maxRecDepth 20000 in
theorem dL_law_850 : decode cL_law 850 = .ok (.aload_n 0, 1) := by decide +kernel
set_option maxRecDepth 20000 in
theorem dL_law_851 : decode cL_law 851 = .ok (.iload_n 3, 1) := by decide +kernel
set_option maxRecDepth 20000 in
theorem dL_law_852 : decode cL_law 852 = .ok (.iconst 2, 1) := by decide +kernel
set_option maxRecDepth 20000 in
theorem dL_law_853 : decode cL_law 853 = .ok (.iadd, 1) := by decide +kernel
set_option maxRecDepth 20000 in
theorem dL_law_854 : decode cL_law 854 = .ok (.iaload, 1) := by decide +kernel
set_option maxRecDepth 20000 in
theorem dL_law_855 : decode cL_law 855 = .ok (.invokevirtual 110, 3) := by decide +kernel
set_option maxRecDepth 20000 in
theorem dL_law_858 : decode cL_law 858 = .ok (.aload_n 2, 1) := by decide +kernel
set_option maxRecDepth 20000 in
theorem dL_law_859 : decode cL_law 859 = .ok (.aload_n 0, 1) := by decide +kernel
set_option maxRecDepth 20000 in
theorem dL_law_860 : decode cL_law 860 = .ok (.iload_n 3, 1) := by decide +kernel
set_option maxRecDepth 20000 in
theorem dL_law_861 : decode cL_law 861 = .ok (.iconst 1, 1) := by decide +kernel
set_option maxRecDepth 20000 in
theorem dL_law_862 : decode cL_law 862 = .ok (.iadd, 1) := by decide +kernel
set_option maxRecDepth 20000 in
theorem dL_law_863 : decode cL_law 863 = .ok (.iaload, 1) := by decide +kernel
set_option maxRecDepth 20000 in
theorem dL_law_864 : decode cL_law 864 = .ok (.aload_n 0, 1) := by decide +kernel
set_option maxRecDepth 20000 in
theorem dL_law_865 : decode cL_law 865 = .ok (.iload_n 3, 1) := by decide +kernel
set_option maxRecDepth 20000 in
theorem dL_law_866 : decode cL_law 866 = .ok (.iconst 2, 1) := by decide +kernel
set_option maxRecDepth 20000 in
theorem dL_law_867 : decode cL_law 867 = .ok (.iadd, 1) := by decide +kernel
set_option maxRecDepth 20000 in
theorem dL_law_868 : decode cL_law 868 = .ok (.iaload, 1) := by decide +kernel
set_option maxRecDepth 20000 in
theorem dL_law_869 : decode cL_law 869 = .ok (.invokevirtual 113, 3) := by decide +kernel
set_option maxRecDepth 20000 in
theorem dL_law_872 : decode cL_law 872 = .ok (.if_icmp .eq 184, 3) := by decide +kernel
set_option maxRecDepth 20000 in
theorem dL_law_875 : decode cL_law 875 = .ok (.iconst 0, 1) := by decide +kernel
set_option maxRecDepth 20000 in
theorem dL_law_876 : decode cL_law 876 = .ok (.ireturn, 1) := by decide +kernel
set_option maxRecDepth 20000 in
theorem dL_law_877 : decode cL_law 877 = .ok (.aload_n 1, 1) := by decide +kernel
set_option maxRecDepth 20000 in
theorem dL_law_878 : decode cL_law 878 = .ok (.aload_n 0, 1) := by decide +kernel
set_option maxRecDepth 20000 in
theorem dL_law_879 : decode cL_law 879 = .ok (.iload_n 3, 1) := by decide +kernel
set_option maxRecDepth 20000 in
theorem dL_law_880 : decode cL_law 880 = .ok (.iconst 1, 1) := by decide +kernel
set_option maxRecDepth 20000 in
theorem dL_law_881 : decode cL_law 881 = .ok (.iadd, 1) := by decide +kernel
set_option maxRecDepth 20000 in
theorem dL_law_882 : decode cL_law 882 = .ok (.iaload, 1) := by decide +kernel
set_option maxRecDepth 20000 in
theorem dL_law_883 : decode cL_law 883 = .ok (.aload_n 0, 1) := by decide +kernel
set_option maxRecDepth 20000 in
theorem dL_law_884 : decode cL_law 884 = .ok (.iload_n 3, 1) := by decide +kernel
set_option maxRecDepth 20000 in
theorem dL_law_885 : decode cL_law 885 = .ok (.iconst 2, 1) := by decide +kernel
set_option maxRecDepth 20000 in
theorem dL_law_886 : decode cL_law 886 = .ok (.iadd, 1) := by decide +kernel
set_option maxRecDepth 20000 in
theorem dL_law_887 : decode cL_law 887 = .ok (.iaload, 1) := by decide +kernel
set_option maxRecDepth 20000 in
theorem dL_law_888 : decode cL_law 888 = .ok (.aload_n 0, 1) := by decide +kernel
set_option maxRecDepth 20000 in
theorem dL_law_889 : decode cL_law 889 = .ok (.iload_n 3, 1) := by decide +kernel
set_option maxRecDepth 20000 in
theorem dL_law_890 : decode cL_law 890 = .ok (.iconst 3, 1) := by decide +kernel
set_option maxRecDepth 20000 in
theorem dL_law_891 : decode cL_law 891 = .ok (.iadd, 1) := by decide +kernel
set_option maxRecDepth 20000 in
theorem dL_law_892 : decode cL_law 892 = .ok (.iaload, 1) := by decide +kernel
set_option maxRecDepth 20000 in
theorem dL_law_893 : decode cL_law 893 = .ok (.invokevirtual 114, 3) := by decide +kernel
set_option maxRecDepth 20000 in
theorem dL_law_896 : decode cL_law 896 = .ok (.aload_n 2, 1) := by decide +kernel
set_option maxRecDepth 20000 in
theorem dL_law_897 : decode cL_law 897 = .ok (.aload_n 0, 1) := by decide +kernel
set_option maxRecDepth 20000 in
theorem dL_law_898 : decode cL_law 898 = .ok (.iload_n 3, 1) := by decide +kernel
set_option maxRecDepth 20000 in
theorem dL_law_899 : decode cL_law 899 = .ok (.iconst 1, 1) := by decide +kernel
set_option maxRecDepth 20000 in
theorem dL_law_900 : decode cL_law 900 = .ok (.iadd, 1) := by decide +kernel
set_option maxRecDepth 20000 in
theorem dL_law_901 : decode cL_law 901 = .ok (.iaload, 1) := by decide +kernel
set_option maxRecDepth 20000 in
theorem dL_law_902 : decode cL_law 902 = .ok (.aload_n 0, 1) := by decide +kernel
set_option maxRecDepth 20000 in
theorem dL_law_903 : decode cL_law 903 = .ok (.iload_n 3, 1) := by decide +kernel
set_option maxRecDepth 20000 in
theorem dL_law_904 : decode cL_law 904 = .ok (.iconst 2, 1) := by decide +kernel
set_option maxRecDepth 20000 in
theorem dL_law_905 : decode cL_law 905 = .ok (.iadd, 1) := by decide +kernel
set_option maxRecDepth 20000 in
theorem dL_law_906 : decode cL_law 906 = .ok (.iaload, 1) := by decide +kernel
set_option maxRecDepth 20000 in
theorem dL_law_907 : decode cL_law 907 = .ok (.aload_n 0, 1) := by decide +kernel
set_option maxRecDepth 20000 in
theorem dL_law_908 : decode cL_law 908 = .ok (.iload_n 3, 1) := by decide +kernel
set_option maxRecDepth 20000 in
theorem dL_law_909 : decode cL_law 909 = .ok (.iconst 3, 1) := by decide +kernel
set_option maxRecDepth 20000 in
theorem dL_law_910 : decode cL_law 910 = .ok (.iadd, 1) := by decide +kernel
set_option maxRecDepth 20000 in
theorem dL_law_911 : decode cL_law 911 = .ok (.iaload, 1) := by decide +kernel
set_option maxRecDepth 20000 in
theorem dL_law_912 : decode cL_law 912 = .ok (.invokevirtual 117, 3) := by decide +kernel
set_option maxRecDepth 20000 in
theorem dL_law_915 : decode cL_law 915 = .ok (.if_icmp .eq 141, 3) := by decide +kernel
set_option maxRecDepth 20000 in
theorem dL_law_918 : decode cL_law 918 = .ok (.iconst 0, 1) := by decide +kernel
set_option maxRecDepth 20000 in
theorem dL_law_919 : decode cL_law 919 = .ok (.ireturn, 1) := by decide +kernel
set_option maxRecDepth 20000 in
theorem dL_law_920 : decode cL_law 920 = .ok (.aload_n 1, 1) := by decide +kernel
set_option maxRecDepth 20000 in
theorem dL_law_921 : decode cL_law 921 = .ok (.aload_n 0, 1) := by decide +kernel
set_option maxRecDepth 20000 in
theorem dL_law_922 : decode cL_law 922 = .ok (.iload_n 3, 1) := by decide +kernel
set_option maxRecDepth 20000 in
theorem dL_law_923 : decode cL_law 923 = .ok (.iconst 1, 1) := by decide +kernel
set_option maxRecDepth 20000 in
theorem dL_law_924 : decode cL_law 924 = .ok (.iadd, 1) := by decide +kernel
set_option maxRecDepth 20000 in
theorem dL_law_925 : decode cL_law 925 = .ok (.iaload, 1) := by decide +kernel
set_option maxRecDepth 20000 in
theorem dL_law_926 : decode cL_law 926 = .ok (.aload_n 0, 1) := by decide +kernel
set_option maxRecDepth 20000 in
theorem dL_law_927 : decode cL_law 927 = .ok (.iload_n 3, 1) := by decide +kernel
set_option maxRecDepth 20000 in
theorem dL_law_928 : decode cL_law 928 = .ok (.iconst 2, 1) := by decide +kernel
set_option maxRecDepth 20000 in
theorem dL_law_929 : decode cL_law 929 = .ok (.iadd, 1) := by decide +kernel
set_option maxRecDepth 20000 in
theorem dL_law_930 : decode cL_law 930 = .ok (.iaload, 1) := by decide +kernel
set_option maxRecDepth 20000 in
theorem dL_law_931 : decode cL_law 931 = .ok (.invokevirtual 118, 3) := by decide +kernel
set_option maxRecDepth 20000 in
theorem dL_law_934 : decode cL_law 934 = .ok (.aload_n 2, 1) := by decide +kernel
set_option maxRecDepth 20000 in
theorem dL_law_935 : decode cL_law 935 = .ok (.aload_n 0, 1) := by decide +kernel
set_option maxRecDepth 20000 in
theorem dL_law_936 : decode cL_law 936 = .ok (.iload_n 3, 1) := by decide +kernel
set_option maxRecDepth 20000 in
theorem dL_law_937 : decode cL_law 937 = .ok (.iconst 1, 1) := by decide +kernel
set_option maxRecDepth 20000 in
theorem dL_law_938 : decode cL_law 938 = .ok (.iadd, 1) := by decide +kernel
set_option maxRecDepth 20000 in
theorem dL_law_939 : decode cL_law 939 = .ok (.iaload, 1) := by decide +kernel
set_option maxRecDepth 20000 in
theorem dL_law_940 : decode cL_law 940 = .ok (.aload_n 0, 1) := by decide +kernel
set_option maxRecDepth 20000 in
theorem dL_law_941 : decode cL_law 941 = .ok (.iload_n 3, 1) := by decide +kernel
set_option maxRecDepth 20000 in
theorem dL_law_942 : decode cL_law 942 = .ok (.iconst 2, 1) := by decide +kernel
set_option maxRecDepth 20000 in
theorem dL_law_943 : decode cL_law 943 = .ok (.iadd, 1) := by decide +kernel
set_option maxRecDepth 20000 in
theorem dL_law_944 : decode cL_law 944 = .ok (.iaload, 1) := by decide +kernel
set_option maxRecDepth 20000 in
theorem dL_law_945 : decode cL_law 945 = .ok (.invokevirtual 121, 3) := by decide +kernel
set_option maxRecDepth 20000 in
theorem dL_law_948 : decode cL_law 948 = .ok (.if_icmp .eq 108, 3) := by decide +kernel
set_option maxRecDepth 20000 in
theorem dL_law_951 : decode cL_law 951 = .ok (.iconst 0, 1) := by decide +kernel
set_option maxRecDepth 20000 in
theorem dL_law_952 : decode cL_law 952 = .ok (.ireturn, 1) := by decide +kernel
set_option maxRecDepth 20000 in
theorem dL_law_953 : decode cL_law 953 = .ok (.aload_n 1, 1) := by decide +kernel
set_option maxRecDepth 20000 in
theorem dL_law_954 : decode cL_law 954 = .ok (.aload_n 0, 1) := by decide +kernel
set_option maxRecDepth 20000 in
theorem dL_law_955 : decode cL_law 955 = .ok (.iload_n 3, 1) := by decide +kernel
set_option maxRecDepth 20000 in
theorem dL_law_956 : decode cL_law 956 = .ok (.iconst 1, 1) := by decide +kernel
set_option maxRecDepth 20000 in
theorem dL_law_957 : decode cL_law 957 = .ok (.iadd, 1) := by decide +kernel
set_option maxRecDepth 20000 in
theorem dL_law_958 : decode cL_law 958 = .ok (.iaload, 1) := by decide +kernel
set_option maxRecDepth 20000 in
theorem dL_law_959 : decode cL_law 959 = .ok (.aload_n 0, 1) := by decide +kernel
set_option maxRecDepth 20000 in
theorem dL_law_960 : decode cL_law 960 = .ok (.iload_n 3, 1) := by decide +kernel
set_option maxRecDepth 20000 in
theorem dL_law_961 : decode cL_law 961 = .ok (.iconst 2, 1) := by decide +kernel
set_option maxRecDepth 20000 in
theorem dL_law_962 : decode cL_law 962 = .ok (.iadd, 1) := by decide +kernel
set_option maxRecDepth 20000 in
theorem dL_law_963 : decode cL_law 963 = .ok (.iaload, 1) := by decide +kernel
set_option maxRecDepth 20000 in
theorem dL_law_964 : decode cL_law 964 = .ok (.invokevirtual 122, 3) := by decide +kernel
set_option maxRecDepth 20000 in
theorem dL_law_967 : decode cL_law 967 = .ok (.aload_n 2, 1) := by decide +kernel
set_option maxRecDepth 20000 in
theorem dL_law_968 : decode cL_law 968 = .ok (.aload_n 0, 1) := by decide +kernel
set_option maxRecDepth 20000 in
theorem dL_law_969 : decode cL_law 969 = .ok (.iload_n 3, 1) := by decide +kernel
set_option maxRecDepth 20000 in
theorem dL_law_970 : decode cL_law 970 = .ok (.iconst 1, 1) := by decide +kernel
set_option maxRecDepth 20000 in
theorem dL_law_971 : decode cL_law 971 = .ok (.iadd, 1) := by decide +kernel
set_option maxRecDepth 20000 in
theorem dL_law_972 : decode cL_law 972 = .ok (.iaload, 1) := by decide +kernel
set_option maxRecDepth 20000 in
theorem dL_law_973 : decode cL_law 973 = .ok (.aload_n 0, 1) := by decide +kernel
set_option maxRecDepth 20000 in
theorem dL_law_974 : decode cL_law 974 = .ok (.iload_n 3, 1) := by decide +kernel
set_option maxRecDepth 20000 in
theorem dL_law_975 : decode cL_law 975 = .ok (.iconst 2, 1) := by decide +kernel
set_option maxRecDepth 20000 in
theorem dL_law_976 : decode cL_law 976 = .ok (.iadd, 1) := by decide +kernel
set_option maxRecDepth 20000 in
theorem dL_law_977 : decode cL_law 977 = .ok (.iaload, 1) := by decide +kernel
set_option maxRecDepth 20000 in
theorem dL_law_978 : decode cL_law 978 = .ok (.invokevirtual 125, 3) := by decide +kernel
set_option maxRecDepth 20000 in
theorem dL_law_981 : decode cL_law 981 = .ok (.if_icmp .eq 75, 3) := by decide +kernel
set_option maxRecDepth 20000 in
theorem dL_law_984 : decode cL_law 984 = .ok (.iconst 0, 1) := by decide +kernel
set_option maxRecDepth 20000 in
theorem dL_law_985 : decode cL_law 985 = .ok (.ireturn, 1) := by decide +kernel
set_option maxRecDepth 20000 in
theorem dL_law_986 : decode cL_law 986 = .ok (.aload_n 1, 1) := by decide +kernel
set_option maxRecDepth 20000 in
theorem dL_law_987 : decode cL_law 987 = .ok (.aload_n 0, 1) := by decide +kernel
set_option maxRecDepth 20000 in
theorem dL_law_988 : decode cL_law 988 = .ok (.iload_n 3, 1) := by decide +kernel
set_option maxRecDepth 20000 in
theorem dL_law_989 : decode cL_law 989 = .ok (.iconst 1, 1) := by decide +kernel
set_option maxRecDepth 20000 in
theorem dL_law_990 : decode cL_law 990 = .ok (.iadd, 1) := by decide +kernel
set_option maxRecDepth 20000 in
theorem dL_law_991 : decode cL_law 991 = .ok (.iaload, 1) := by decide +kernel
set_option maxRecDepth 20000 in
theorem dL_law_992 : decode cL_law 992 = .ok (.aload_n 0, 1) := by decide +kernel
set_option maxRecDepth 20000 in
theorem dL_law_993 : decode cL_law 993 = .ok (.iload_n 3, 1) := by decide +kernel
set_option maxRecDepth 20000 in
theorem dL_law_994 : decode cL_law 994 = .ok (.iconst 2, 1) := by decide +kernel
set_option maxRecDepth 20000 in
theorem dL_law_995 : decode cL_law 995 = .ok (.iadd, 1) := by decide +kernel
set_option maxRecDepth 20000 in
theorem dL_law_996 : decode cL_law 996 = .ok (.iaload, 1) := by decide +kernel
set_option maxRecDepth 20000 in
theorem dL_law_997 : decode cL_law 997 = .ok (.invokevirtual 126, 3) := by decide +kernel
set_option maxRecDepth 20000 in
theorem dL_law_1000 : decode cL_law 1000 = .ok (.aload_n 2, 1) := by decide +kernel
set_option maxRecDepth 20000 in
theorem dL_law_1001 : decode cL_law 1001 = .ok (.aload_n 0, 1) := by decide +kernel
set_option maxRecDepth 20000 in
theorem dL_law_1002 : decode cL_law 1002 = .ok (.iload_n 3, 1) := by decide +kernel
set_option maxRecDepth 20000 in
theorem dL_law_1003 : decode cL_law 1003 = .ok (.iconst 1, 1) := by decide +kernel
set_option maxRecDepth 20000 in
theorem dL_law_1004 : decode cL_law 1004 = .ok (.iadd, 1) := by decide +kernel
set_option maxRecDepth 20000 in
theorem dL_law_1005 : decode cL_law 1005 = .ok (.iaload, 1) := by decide +kernel
set_option maxRecDepth 20000 in
theorem dL_law_1006 : decode cL_law 1006 = .ok (.aload_n 0, 1) := by decide +kernel
set_option maxRecDepth 20000 in
theorem dL_law_1007 : decode cL_law 1007 = .ok (.iload_n 3, 1) := by decide +kernel
set_option maxRecDepth 20000 in
theorem dL_law_1008 : decode cL_law 1008 = .ok (.iconst 2, 1) := by decide +kernel
set_option maxRecDepth 20000 in
theorem dL_law_1009 : decode cL_law 1009 = .ok (.iadd, 1) := by decide +kernel
set_option maxRecDepth 20000 in
theorem dL_law_1010 : decode cL_law 1010 = .ok (.iaload, 1) := by decide +kernel
set_option maxRecDepth 20000 in
theorem dL_law_1011 : decode cL_law 1011 = .ok (.invokevirtual 129, 3) := by decide +kernel
set_option maxRecDepth 20000 in
theorem dL_law_1014 : decode cL_law 1014 = .ok (.if_icmp .eq 42, 3) := by decide +kernel
set_option maxRecDepth 20000 in
theorem dL_law_1017 : decode cL_law 1017 = .ok (.iconst 0, 1) := by decide +kernel
set_option maxRecDepth 20000 in
theorem dL_law_1018 : decode cL_law 1018 = .ok (.ireturn, 1) := by decide +kernel
set_option maxRecDepth 20000 in
theorem dL_law_1019 : decode cL_law 1019 = .ok (.aload_n 1, 1) := by decide +kernel
set_option maxRecDepth 20000 in
theorem dL_law_1020 : decode cL_law 1020 = .ok (.aload_n 0, 1) := by decide +kernel
set_option maxRecDepth 20000 in
theorem dL_law_1021 : decode cL_law 1021 = .ok (.iload_n 3, 1) := by decide +kernel
set_option maxRecDepth 20000 in
theorem dL_law_1022 : decode cL_law 1022 = .ok (.iconst 1, 1) := by decide +kernel
set_option maxRecDepth 20000 in
theorem dL_law_1023 : decode cL_law 1023 = .ok (.iadd, 1) := by decide +kernel
set_option maxRecDepth 20000 in
theorem dL_law_1024 : decode cL_law 1024 = .ok (.iaload, 1) := by decide +kernel
set_option maxRecDepth 20000 in
theorem dL_law_1025 : decode cL_law 1025 = .ok (.invokevirtual 130, 3) := by decide +kernel
set_option maxRecDepth 20000 in
theorem dL_law_1028 : decode cL_law 1028 = .ok (.aload_n 2, 1) := by decide +kernel
set_option maxRecDepth 20000 in
theorem dL_law_1029 : decode cL_law 1029 = .ok (.aload_n 0, 1) := by decide +kernel
set_option maxRecDepth 20000 in
theorem dL_law_1030 : decode cL_law 1030 = .ok (.iload_n 3, 1) := by decide +kernel
set_option maxRecDepth 20000 in
theorem dL_law_1031 : decode cL_law 1031 = .ok (.iconst 1, 1) := by decide +kernel
set_option maxRecDepth 20000 in
theorem dL_law_1032 : decode cL_law 1032 = .ok (.iadd, 1) := by decide +kernel
set_option maxRecDepth 20000 in
theorem dL_law_1033 : decode cL_law 1033 = .ok (.iaload, 1) := by decide +kernel
set_option maxRecDepth 20000 in
theorem dL_law_1034 : decode cL_law 1034 = .ok (.invokevirtual 133, 3) := by decide +kernel
set_option maxRecDepth 20000 in
theorem dL_law_1037 : decode cL_law 1037 = .ok (.if_icmp .eq 19, 3) := by decide +kernel
set_option maxRecDepth 20000 in
theorem dL_law_1040 : decode cL_law 1040 = .ok (.iconst 0, 1) := by decide +kernel
set_option maxRecDepth 20000 in
theorem dL_law_1041 : decode cL_law 1041 = .ok (.ireturn, 1) := by decide +kernel
set_option maxRecDepth 20000 in
theorem dL_law_1042 : decode cL_law 1042 = .ok (.aload_n 1, 1) := by decide +kernel
set_option maxRecDepth 20000 in
theorem dL_law_1043 : decode cL_law 1043 = .ok (.invokevirtual 134, 3) := by decide +kernel
set_option maxRecDepth 20000 in
theorem dL_law_1046 : decode cL_law 1046 = .ok (.aload_n 2, 1) := by decide +kernel
set_option maxRecDepth 20000 in
theorem dL_law_1047 : decode cL_law 1047 = .ok (.invokevirtual 137, 3) := by decide +kernel
set_option maxRecDepth 20000 in
theorem dL_law_1050 : decode cL_law 1050 = .ok (.lcmp, 1) := by decide +kernel
set_option maxRecDepth 20000 in
theorem dL_law_1051 : decode cL_law 1051 = .ok (.ifCond .eq 5, 3) := by decide +kernel
set_option maxRecDepth 20000 in
theorem dL_law_1054 : decode cL_law 1054 = .ok (.iconst 0, 1) := by decide +kernel
set_option maxRecDepth 20000 in
theorem dL_law_1055 : decode cL_law 1055 = .ok (.ireturn, 1) := by decide +kernel
set_option maxRecDepth 20000 in
theorem dL_law_1056 : decode cL_law 1056 = .ok (.iinc 3 4, 3) := by decide +kernel
set_option maxRecDepth 20000 in
theorem dL_law_1059 : decode cL_law 1059 = .ok (.goto (-1041), 3) := by decide +kernel
set_option maxRecDepth 20000 in
theorem dL_law_1062 : decode cL_law 1062 = .ok (.iconst 1, 1) := by decide +kernel
set_option maxRecDepth 20000 in
theorem dL_law_1063 : decode cL_law 1063 = .ok (.ireturn, 1) := by decide +kernel
def f_L_law_1042 (N : Nat) (L : Nat) (c_a0 : Nat → Int32) (k18 : Int64 → Int64 → Int32 → Int32 → Int32 → (Nat → Int32) → (Nat → Int32) → (Nat → Int32) → (Nat → Int32) → (Nat → Int32) → Int32 → Int32 → Int32 → Int32 → (Nat → Int32) → (Nat → Int32) → (Nat → Int32) → (Nat → Int32) → (Nat → Int32) → (Nat → Int32) → (Nat → Int32) → (Nat → Int32) → (Nat → Int32) → (Nat → Int32) → Int32 → Int32 → Int32 → Int32 → (Nat → Int32) → (Nat → Int32) → (Nat → Int32) → (Nat → Int32) → (Nat → Int32) → (Nat → Int32) → (Nat → Int32) → (Nat → Int32) → (Nat → Int32) → (Nat → Int32) → Int32 → Int32 → Int32 → Int32 → (Nat → Int32) → (Nat → Int32) → (Nat → Int32) → (Nat → Int32) → (Nat → Int32) → (Nat → Int32) → (Nat → Int32) → (Nat → Int32) → (Nat → Int32) → (Nat → Int32) → Int32 → Int32 → (Nat → Int32) → (Nat → Int32) → (Nat → Int32) → (Nat → Int32) → (Nat → Int32) → (Nat → Int32) → Int32 → (Nat → Int32) → (Nat → Int32) → Int32 → Int64 → Int32 → Int32 → (Nat → Int32) → (Nat → Int64) → (Nat → Int32) → Int64 → Int64 → (Nat → Int64) → (Nat → Int64) → (Nat → Int32) → (Nat → Int32) → (Nat → Int32) → Int32 → Int32 → Int64 → Int64 → Int32 → Int32 → Int32 → Int64 → (Nat → Int32) → (Nat → Int32) → (Nat → Int32) → (Nat → Int32) → (Nat → Int64) → (Nat → Int32) → (Nat → Int64) → (Nat → Int64) → (Nat → Int32) → (Nat → Int32) → (Nat → Int32) → (Nat → Int32) → (Nat → Int64) → (Nat → Int32) → (Nat → Int32) → (Nat → Int32) → (Nat → Int32) → (Nat → Int32) → (Nat → Int64) → (Nat → Int64) → (Nat → Int32) → Int32 → Option Int32) (c_a1_above : Int64) (c_a1_below : Int64) (c_a1_board_askers : Int32) (c_a1_board_places : Int32) (c_a1_board_age : Int32) (c_a1_board_seats : Nat → Int32) (c_a1_board_wishes : Nat → Int32) (c_a1_board_likes : Nat → Int32) (c_a1_board_told : Nat → Int32) (c_a1_all_slots : Nat → Int32) (c_a1_all_askers : Int32) (c_a1_all_places : Int32) (c_a1_all_seatBits : Int32) (c_a1_all_entries : Int32) (c_a1_all_gains : Nat → Int32) (c_a1_all_solvedGains : Nat → Int32) (c_a1_all_left : Nat → Int32) (c_a1_all_best : Nat → Int32) (c_a1_all_ways : Nat → Int32) (c_a1_all_next : Nat → Int32) (c_a1_all_firstOf : Nat → Int32) (c_a1_all_clipAll : Nat → Int32) (c_a1_all_clipToOne : Nat → Int32) (c_a1_all_clipToTwo : Nat → Int32) (c_a1_steady_askers : Int32) (c_a1_steady_places : Int32) (c_a1_steady_seatBits : Int32) (c_a1_steady_entries : Int32) (c_a1_steady_gains : Nat → Int32) (c_a1_steady_solvedGains : Nat → Int32) (c_a1_steady_left : Nat → Int32) (c_a1_steady_best : Nat → Int32) (c_a1_steady_ways : Nat → Int32) (c_a1_steady_next : Nat → Int32) (c_a1_steady_firstOf : Nat → Int32) (c_a1_steady_clipAll : Nat → Int32) (c_a1_steady_clipToOne : Nat → Int32) (c_a1_steady_clipToTwo : Nat → Int32) (c_a1_aimed_askers : Int32) (c_a1_aimed_places : Int32) (c_a1_aimed_seatBits : Int32) (c_a1_aimed_entries : Int32) (c_a1_aimed_gains : Nat → Int32) (c_a1_aimed_solvedGains : Nat → Int32) (c_a1_aimed_left : Nat → Int32) (c_a1_aimed_best : Nat → Int32) (c_a1_aimed_ways : Nat → Int32) (c_a1_aimed_next : Nat → Int32) (c_a1_aimed_firstOf : Nat → Int32) (c_a1_aimed_clipAll : Nat → Int32) (c_a1_aimed_clipToOne : Nat → Int32) (c_a1_aimed_clipToTwo : Nat → Int32) (c_a1_steadiness_most : Int32) (c_a1_steadiness_tight : Int32) (c_a1_steadiness_firsts : Nat → Int32) (c_a1_trade_gets : Nat → Int32) (c_a1_trade_servedIn : Nat → Int32) (c_a1_trade_holds : Nat → Int32) (c_a1_trade_pointsAt : Nat → Int32) (c_a1_trade_holderOf : Nat → Int32) (c_a1_ring_length : Int32) (c_a1_ring_members : Nat → Int32) (c_a1_ring_wants : Nat → Int32) (c_a1_lots_age : Int32) (c_a1_lots_runs : Int64) (c_a1_lots_wanting : Int32) (c_a1_lots_wanted : Int32) (c_a1_lots_answers : Nat → Int32) (c_a1_lots_memoKeys : Nat → Int64) (c_a1_lots_memos : Nat → Int32) (c_a1_eating_whole : Int64) (c_a1_eating_time : Int64) (c_a1_eating_eaten : Nat → Int64) (c_a1_eating_rest : Nat → Int64) (c_a1_eating_eatsAt : Nat → Int32) (c_a1_eating_eaters : Nat → Int32) (c_a1_row : Nat → Int32) (c_a2_askers : Int32) (c_a2_places : Int32) (c_a2_above : Int64) (c_a2_below : Int64) (c_a2_full : Int32) (c_a2_firsts : Int32) (c_a2_freed : Int32) (c_a2_whole : Int64) (c_a2_seats : Nat → Int32) (c_a2_wish : Nat → Int32) (c_a2_told : Nat → Int32) (c_a2_weight : Nat → Int32) (c_a2_count : Nat → Int64) (c_a2_found : Nat → Int32) (c_a2_cost : Nat → Int64) (c_a2_least : Nat → Int64) (c_a2_prefer : Nat → Int32) (c_a2_next : Nat → Int32) (c_a2_firstWorth : Nat → Int32) (c_a2_secondWorth : Nat → Int32) (c_a2_stand : Nat → Int64) (c_a2_served : Nat → Int32) (c_a2_points : Nat → Int32) (c_a2_can : Nat → Int32) (c_a2_ring : Nat → Int32) (c_a2_ways : Nat → Int32) (c_a2_leftOf : Nat → Int64) (c_a2_ate : Nat → Int64) (c_a2_eats : Nat → Int32) (v3 : Int32) : Option Int32 :=
    (f_X7_digest N c_a1_above c_a1_below c_a1_board_askers c_a1_board_places c_a1_board_seats c_a1_board_told c_a1_board_wishes).bind fun r1 =>
    (f_X8_digest N c_a2_askers c_a2_places c_a2_above c_a2_below c_a2_seats c_a2_told c_a2_wish).bind fun r3 =>
    (if r1 = r3 then
      k18 c_a1_above c_a1_below c_a1_board_askers c_a1_board_places c_a1_board_age c_a1_board_seats c_a1_board_wishes c_a1_board_likes c_a1_board_told c_a1_all_slots c_a1_all_askers c_a1_all_places c_a1_all_seatBits c_a1_all_entries c_a1_all_gains c_a1_all_solvedGains c_a1_all_left c_a1_all_best c_a1_all_ways c_a1_all_next c_a1_all_firstOf c_a1_all_clipAll c_a1_all_clipToOne c_a1_all_clipToTwo c_a1_steady_askers c_a1_steady_places c_a1_steady_seatBits c_a1_steady_entries c_a1_steady_gains c_a1_steady_solvedGains c_a1_steady_left c_a1_steady_best c_a1_steady_ways c_a1_steady_next c_a1_steady_firstOf c_a1_steady_clipAll c_a1_steady_clipToOne c_a1_steady_clipToTwo c_a1_aimed_askers c_a1_aimed_places c_a1_aimed_seatBits c_a1_aimed_entries c_a1_aimed_gains c_a1_aimed_solvedGains c_a1_aimed_left c_a1_aimed_best c_a1_aimed_ways c_a1_aimed_next c_a1_aimed_firstOf c_a1_aimed_clipAll c_a1_aimed_clipToOne c_a1_aimed_clipToTwo c_a1_steadiness_most c_a1_steadiness_tight c_a1_steadiness_firsts c_a1_trade_gets c_a1_trade_servedIn c_a1_trade_holds c_a1_trade_pointsAt c_a1_trade_holderOf c_a1_ring_length c_a1_ring_members c_a1_ring_wants c_a1_lots_age c_a1_lots_runs c_a1_lots_wanting c_a1_lots_wanted c_a1_lots_answers c_a1_lots_memoKeys c_a1_lots_memos c_a1_eating_whole c_a1_eating_time c_a1_eating_eaten c_a1_eating_rest c_a1_eating_eatsAt c_a1_eating_eaters c_a1_row c_a2_askers c_a2_places c_a2_above c_a2_below c_a2_full c_a2_firsts c_a2_freed c_a2_whole c_a2_seats c_a2_wish c_a2_told c_a2_weight c_a2_count c_a2_found c_a2_cost c_a2_least c_a2_prefer c_a2_next c_a2_firstWorth c_a2_secondWorth c_a2_stand c_a2_served c_a2_points c_a2_can c_a2_ring c_a2_ways c_a2_leftOf c_a2_ate c_a2_eats (v3 + 4)
    else
      some 0)
def f_L_law_1019 (N : Nat) (L : Nat) (c_a0 : Nat → Int32) (k18 : Int64 → Int64 → Int32 → Int32 → Int32 → (Nat → Int32) → (Nat → Int32) → (Nat → Int32) → (Nat → Int32) → (Nat → Int32) → Int32 → Int32 → Int32 → Int32 → (Nat → Int32) → (Nat → Int32) → (Nat → Int32) → (Nat → Int32) → (Nat → Int32) → (Nat → Int32) → (Nat → Int32) → (Nat → Int32) → (Nat → Int32) → (Nat → Int32) → Int32 → Int32 → Int32 → Int32 → (Nat → Int32) → (Nat → Int32) → (Nat → Int32) → (Nat → Int32) → (Nat → Int32) → (Nat → Int32) → (Nat → Int32) → (Nat → Int32) → (Nat → Int32) → (Nat → Int32) → Int32 → Int32 → Int32 → Int32 → (Nat → Int32) → (Nat → Int32) → (Nat → Int32) → (Nat → Int32) → (Nat → Int32) → (Nat → Int32) → (Nat → Int32) → (Nat → Int32) → (Nat → Int32) → (Nat → Int32) → Int32 → Int32 → (Nat → Int32) → (Nat → Int32) → (Nat → Int32) → (Nat → Int32) → (Nat → Int32) → (Nat → Int32) → Int32 → (Nat → Int32) → (Nat → Int32) → Int32 → Int64 → Int32 → Int32 → (Nat → Int32) → (Nat → Int64) → (Nat → Int32) → Int64 → Int64 → (Nat → Int64) → (Nat → Int64) → (Nat → Int32) → (Nat → Int32) → (Nat → Int32) → Int32 → Int32 → Int64 → Int64 → Int32 → Int32 → Int32 → Int64 → (Nat → Int32) → (Nat → Int32) → (Nat → Int32) → (Nat → Int32) → (Nat → Int64) → (Nat → Int32) → (Nat → Int64) → (Nat → Int64) → (Nat → Int32) → (Nat → Int32) → (Nat → Int32) → (Nat → Int32) → (Nat → Int64) → (Nat → Int32) → (Nat → Int32) → (Nat → Int32) → (Nat → Int32) → (Nat → Int32) → (Nat → Int64) → (Nat → Int64) → (Nat → Int32) → Int32 → Option Int32) (c_a1_above : Int64) (c_a1_below : Int64) (c_a1_board_askers : Int32) (c_a1_board_places : Int32) (c_a1_board_age : Int32) (c_a1_board_seats : Nat → Int32) (c_a1_board_wishes : Nat → Int32) (c_a1_board_likes : Nat → Int32) (c_a1_board_told : Nat → Int32) (c_a1_all_slots : Nat → Int32) (c_a1_all_askers : Int32) (c_a1_all_places : Int32) (c_a1_all_seatBits : Int32) (c_a1_all_entries : Int32) (c_a1_all_gains : Nat → Int32) (c_a1_all_solvedGains : Nat → Int32) (c_a1_all_left : Nat → Int32) (c_a1_all_best : Nat → Int32) (c_a1_all_ways : Nat → Int32) (c_a1_all_next : Nat → Int32) (c_a1_all_firstOf : Nat → Int32) (c_a1_all_clipAll : Nat → Int32) (c_a1_all_clipToOne : Nat → Int32) (c_a1_all_clipToTwo : Nat → Int32) (c_a1_steady_askers : Int32) (c_a1_steady_places : Int32) (c_a1_steady_seatBits : Int32) (c_a1_steady_entries : Int32) (c_a1_steady_gains : Nat → Int32) (c_a1_steady_solvedGains : Nat → Int32) (c_a1_steady_left : Nat → Int32) (c_a1_steady_best : Nat → Int32) (c_a1_steady_ways : Nat → Int32) (c_a1_steady_next : Nat → Int32) (c_a1_steady_firstOf : Nat → Int32) (c_a1_steady_clipAll : Nat → Int32) (c_a1_steady_clipToOne : Nat → Int32) (c_a1_steady_clipToTwo : Nat → Int32) (c_a1_aimed_askers : Int32) (c_a1_aimed_places : Int32) (c_a1_aimed_seatBits : Int32) (c_a1_aimed_entries : Int32) (c_a1_aimed_gains : Nat → Int32) (c_a1_aimed_solvedGains : Nat → Int32) (c_a1_aimed_left : Nat → Int32) (c_a1_aimed_best : Nat → Int32) (c_a1_aimed_ways : Nat → Int32) (c_a1_aimed_next : Nat → Int32) (c_a1_aimed_firstOf : Nat → Int32) (c_a1_aimed_clipAll : Nat → Int32) (c_a1_aimed_clipToOne : Nat → Int32) (c_a1_aimed_clipToTwo : Nat → Int32) (c_a1_steadiness_most : Int32) (c_a1_steadiness_tight : Int32) (c_a1_steadiness_firsts : Nat → Int32) (c_a1_trade_gets : Nat → Int32) (c_a1_trade_servedIn : Nat → Int32) (c_a1_trade_holds : Nat → Int32) (c_a1_trade_pointsAt : Nat → Int32) (c_a1_trade_holderOf : Nat → Int32) (c_a1_ring_length : Int32) (c_a1_ring_members : Nat → Int32) (c_a1_ring_wants : Nat → Int32) (c_a1_lots_age : Int32) (c_a1_lots_runs : Int64) (c_a1_lots_wanting : Int32) (c_a1_lots_wanted : Int32) (c_a1_lots_answers : Nat → Int32) (c_a1_lots_memoKeys : Nat → Int64) (c_a1_lots_memos : Nat → Int32) (c_a1_eating_whole : Int64) (c_a1_eating_time : Int64) (c_a1_eating_eaten : Nat → Int64) (c_a1_eating_rest : Nat → Int64) (c_a1_eating_eatsAt : Nat → Int32) (c_a1_eating_eaters : Nat → Int32) (c_a1_row : Nat → Int32) (c_a2_askers : Int32) (c_a2_places : Int32) (c_a2_above : Int64) (c_a2_below : Int64) (c_a2_full : Int32) (c_a2_firsts : Int32) (c_a2_freed : Int32) (c_a2_whole : Int64) (c_a2_seats : Nat → Int32) (c_a2_wish : Nat → Int32) (c_a2_told : Nat → Int32) (c_a2_weight : Nat → Int32) (c_a2_count : Nat → Int64) (c_a2_found : Nat → Int32) (c_a2_cost : Nat → Int64) (c_a2_least : Nat → Int64) (c_a2_prefer : Nat → Int32) (c_a2_next : Nat → Int32) (c_a2_firstWorth : Nat → Int32) (c_a2_secondWorth : Nat → Int32) (c_a2_stand : Nat → Int64) (c_a2_served : Nat → Int32) (c_a2_points : Nat → Int32) (c_a2_can : Nat → Int32) (c_a2_ring : Nat → Int32) (c_a2_ways : Nat → Int32) (c_a2_leftOf : Nat → Int64) (c_a2_ate : Nat → Int64) (c_a2_eats : Nat → Int32) (v3 : Int32) : Option Int32 :=
    (rdI L c_a0 (v3 + 1)).bind fun t1 =>
    (f_X7_count N c_a1_board_askers c_a1_board_places c_a1_board_seats c_a1_board_wishes t1).bind fun r2 =>
    (rdI L c_a0 (v3 + 1)).bind fun t4 =>
    (f_X8_count N c_a2_askers c_a2_places c_a2_seats c_a2_wish t4).bind fun r5 =>
    (if r2 = r5 then
      k18 c_a1_above c_a1_below c_a1_board_askers c_a1_board_places c_a1_board_age c_a1_board_seats c_a1_board_wishes c_a1_board_likes c_a1_board_told c_a1_all_slots c_a1_all_askers c_a1_all_places c_a1_all_seatBits c_a1_all_entries c_a1_all_gains c_a1_all_solvedGains c_a1_all_left c_a1_all_best c_a1_all_ways c_a1_all_next c_a1_all_firstOf c_a1_all_clipAll c_a1_all_clipToOne c_a1_all_clipToTwo c_a1_steady_askers c_a1_steady_places c_a1_steady_seatBits c_a1_steady_entries c_a1_steady_gains c_a1_steady_solvedGains c_a1_steady_left c_a1_steady_best c_a1_steady_ways c_a1_steady_next c_a1_steady_firstOf c_a1_steady_clipAll c_a1_steady_clipToOne c_a1_steady_clipToTwo c_a1_aimed_askers c_a1_aimed_places c_a1_aimed_seatBits c_a1_aimed_entries c_a1_aimed_gains c_a1_aimed_solvedGains c_a1_aimed_left c_a1_aimed_best c_a1_aimed_ways c_a1_aimed_next c_a1_aimed_firstOf c_a1_aimed_clipAll c_a1_aimed_clipToOne c_a1_aimed_clipToTwo c_a1_steadiness_most c_a1_steadiness_tight c_a1_steadiness_firsts c_a1_trade_gets c_a1_trade_servedIn c_a1_trade_holds c_a1_trade_pointsAt c_a1_trade_holderOf c_a1_ring_length c_a1_ring_members c_a1_ring_wants c_a1_lots_age c_a1_lots_runs c_a1_lots_wanting c_a1_lots_wanted c_a1_lots_answers c_a1_lots_memoKeys c_a1_lots_memos c_a1_eating_whole c_a1_eating_time c_a1_eating_eaten c_a1_eating_rest c_a1_eating_eatsAt c_a1_eating_eaters c_a1_row c_a2_askers c_a2_places c_a2_above c_a2_below c_a2_full c_a2_firsts c_a2_freed c_a2_whole c_a2_seats c_a2_wish c_a2_told c_a2_weight c_a2_count c_a2_found c_a2_cost c_a2_least c_a2_prefer c_a2_next c_a2_firstWorth c_a2_secondWorth c_a2_stand c_a2_served c_a2_points c_a2_can c_a2_ring c_a2_ways c_a2_leftOf c_a2_ate c_a2_eats (v3 + 4)
    else
      some 0)
def f_L_law_986 (N : Nat) (L : Nat) (c_a0 : Nat → Int32) (k18 : Int64 → Int64 → Int32 → Int32 → Int32 → (Nat → Int32) → (Nat → Int32) → (Nat → Int32) → (Nat → Int32) → (Nat → Int32) → Int32 → Int32 → Int32 → Int32 → (Nat → Int32) → (Nat → Int32) → (Nat → Int32) → (Nat → Int32) → (Nat → Int32) → (Nat → Int32) → (Nat → Int32) → (Nat → Int32) → (Nat → Int32) → (Nat → Int32) → Int32 → Int32 → Int32 → Int32 → (Nat → Int32) → (Nat → Int32) → (Nat → Int32) → (Nat → Int32) → (Nat → Int32) → (Nat → Int32) → (Nat → Int32) → (Nat → Int32) → (Nat → Int32) → (Nat → Int32) → Int32 → Int32 → Int32 → Int32 → (Nat → Int32) → (Nat → Int32) → (Nat → Int32) → (Nat → Int32) → (Nat → Int32) → (Nat → Int32) → (Nat → Int32) → (Nat → Int32) → (Nat → Int32) → (Nat → Int32) → Int32 → Int32 → (Nat → Int32) → (Nat → Int32) → (Nat → Int32) → (Nat → Int32) → (Nat → Int32) → (Nat → Int32) → Int32 → (Nat → Int32) → (Nat → Int32) → Int32 → Int64 → Int32 → Int32 → (Nat → Int32) → (Nat → Int64) → (Nat → Int32) → Int64 → Int64 → (Nat → Int64) → (Nat → Int64) → (Nat → Int32) → (Nat → Int32) → (Nat → Int32) → Int32 → Int32 → Int64 → Int64 → Int32 → Int32 → Int32 → Int64 → (Nat → Int32) → (Nat → Int32) → (Nat → Int32) → (Nat → Int32) → (Nat → Int64) → (Nat → Int32) → (Nat → Int64) → (Nat → Int64) → (Nat → Int32) → (Nat → Int32) → (Nat → Int32) → (Nat → Int32) → (Nat → Int64) → (Nat → Int32) → (Nat → Int32) → (Nat → Int32) → (Nat → Int32) → (Nat → Int32) → (Nat → Int64) → (Nat → Int64) → (Nat → Int32) → Int32 → Option Int32) (c_a1_above : Int64) (c_a1_below : Int64) (c_a1_board_askers : Int32) (c_a1_board_places : Int32) (c_a1_board_age : Int32) (c_a1_board_seats : Nat → Int32) (c_a1_board_wishes : Nat → Int32) (c_a1_board_likes : Nat → Int32) (c_a1_board_told : Nat → Int32) (c_a1_all_slots : Nat → Int32) (c_a1_all_askers : Int32) (c_a1_all_places : Int32) (c_a1_all_seatBits : Int32) (c_a1_all_entries : Int32) (c_a1_all_gains : Nat → Int32) (c_a1_all_solvedGains : Nat → Int32) (c_a1_all_left : Nat → Int32) (c_a1_all_best : Nat → Int32) (c_a1_all_ways : Nat → Int32) (c_a1_all_next : Nat → Int32) (c_a1_all_firstOf : Nat → Int32) (c_a1_all_clipAll : Nat → Int32) (c_a1_all_clipToOne : Nat → Int32) (c_a1_all_clipToTwo : Nat → Int32) (c_a1_steady_askers : Int32) (c_a1_steady_places : Int32) (c_a1_steady_seatBits : Int32) (c_a1_steady_entries : Int32) (c_a1_steady_gains : Nat → Int32) (c_a1_steady_solvedGains : Nat → Int32) (c_a1_steady_left : Nat → Int32) (c_a1_steady_best : Nat → Int32) (c_a1_steady_ways : Nat → Int32) (c_a1_steady_next : Nat → Int32) (c_a1_steady_firstOf : Nat → Int32) (c_a1_steady_clipAll : Nat → Int32) (c_a1_steady_clipToOne : Nat → Int32) (c_a1_steady_clipToTwo : Nat → Int32) (c_a1_aimed_askers : Int32) (c_a1_aimed_places : Int32) (c_a1_aimed_seatBits : Int32) (c_a1_aimed_entries : Int32) (c_a1_aimed_gains : Nat → Int32) (c_a1_aimed_solvedGains : Nat → Int32) (c_a1_aimed_left : Nat → Int32) (c_a1_aimed_best : Nat → Int32) (c_a1_aimed_ways : Nat → Int32) (c_a1_aimed_next : Nat → Int32) (c_a1_aimed_firstOf : Nat → Int32) (c_a1_aimed_clipAll : Nat → Int32) (c_a1_aimed_clipToOne : Nat → Int32) (c_a1_aimed_clipToTwo : Nat → Int32) (c_a1_steadiness_most : Int32) (c_a1_steadiness_tight : Int32) (c_a1_steadiness_firsts : Nat → Int32) (c_a1_trade_gets : Nat → Int32) (c_a1_trade_servedIn : Nat → Int32) (c_a1_trade_holds : Nat → Int32) (c_a1_trade_pointsAt : Nat → Int32) (c_a1_trade_holderOf : Nat → Int32) (c_a1_ring_length : Int32) (c_a1_ring_members : Nat → Int32) (c_a1_ring_wants : Nat → Int32) (c_a1_lots_age : Int32) (c_a1_lots_runs : Int64) (c_a1_lots_wanting : Int32) (c_a1_lots_wanted : Int32) (c_a1_lots_answers : Nat → Int32) (c_a1_lots_memoKeys : Nat → Int64) (c_a1_lots_memos : Nat → Int32) (c_a1_eating_whole : Int64) (c_a1_eating_time : Int64) (c_a1_eating_eaten : Nat → Int64) (c_a1_eating_rest : Nat → Int64) (c_a1_eating_eatsAt : Nat → Int32) (c_a1_eating_eaters : Nat → Int32) (c_a1_row : Nat → Int32) (c_a2_askers : Int32) (c_a2_places : Int32) (c_a2_above : Int64) (c_a2_below : Int64) (c_a2_full : Int32) (c_a2_firsts : Int32) (c_a2_freed : Int32) (c_a2_whole : Int64) (c_a2_seats : Nat → Int32) (c_a2_wish : Nat → Int32) (c_a2_told : Nat → Int32) (c_a2_weight : Nat → Int32) (c_a2_count : Nat → Int64) (c_a2_found : Nat → Int32) (c_a2_cost : Nat → Int64) (c_a2_least : Nat → Int64) (c_a2_prefer : Nat → Int32) (c_a2_next : Nat → Int32) (c_a2_firstWorth : Nat → Int32) (c_a2_secondWorth : Nat → Int32) (c_a2_stand : Nat → Int64) (c_a2_served : Nat → Int32) (c_a2_points : Nat → Int32) (c_a2_can : Nat → Int32) (c_a2_ring : Nat → Int32) (c_a2_ways : Nat → Int32) (c_a2_leftOf : Nat → Int64) (c_a2_ate : Nat → Int64) (c_a2_eats : Nat → Int32) (v3 : Int32) : Option Int32 :=
    (rdI L c_a0 (v3 + 1)).bind fun t1 =>
    (rdI L c_a0 (v3 + 2)).bind fun t2 =>
    (f_X7_envies N c_a1_board_askers c_a1_board_places c_a1_board_likes c_a1_board_seats c_a1_board_wishes c_a1_eating_whole c_a1_eating_time c_a1_eating_eaten c_a1_eating_eaters c_a1_eating_eatsAt c_a1_eating_rest t1 t2).bind fun (r3, o4, o5, o6, o7, o8, o9) =>
    (rdI L c_a0 (v3 + 1)).bind fun t11 =>
    (rdI L c_a0 (v3 + 2)).bind fun t12 =>
    (f_X8_envies N c_a2_askers c_a2_places c_a2_seats c_a2_wish c_a2_whole c_a2_ate c_a2_eats c_a2_leftOf t11 t12).bind fun (r13, o14, o15, o16, o17) =>
    (if r3 = r13 then
      k18 c_a1_above c_a1_below c_a1_board_askers c_a1_board_places c_a1_board_age c_a1_board_seats c_a1_board_wishes c_a1_board_likes c_a1_board_told c_a1_all_slots c_a1_all_askers c_a1_all_places c_a1_all_seatBits c_a1_all_entries c_a1_all_gains c_a1_all_solvedGains c_a1_all_left c_a1_all_best c_a1_all_ways c_a1_all_next c_a1_all_firstOf c_a1_all_clipAll c_a1_all_clipToOne c_a1_all_clipToTwo c_a1_steady_askers c_a1_steady_places c_a1_steady_seatBits c_a1_steady_entries c_a1_steady_gains c_a1_steady_solvedGains c_a1_steady_left c_a1_steady_best c_a1_steady_ways c_a1_steady_next c_a1_steady_firstOf c_a1_steady_clipAll c_a1_steady_clipToOne c_a1_steady_clipToTwo c_a1_aimed_askers c_a1_aimed_places c_a1_aimed_seatBits c_a1_aimed_entries c_a1_aimed_gains c_a1_aimed_solvedGains c_a1_aimed_left c_a1_aimed_best c_a1_aimed_ways c_a1_aimed_next c_a1_aimed_firstOf c_a1_aimed_clipAll c_a1_aimed_clipToOne c_a1_aimed_clipToTwo c_a1_steadiness_most c_a1_steadiness_tight c_a1_steadiness_firsts c_a1_trade_gets c_a1_trade_servedIn c_a1_trade_holds c_a1_trade_pointsAt c_a1_trade_holderOf c_a1_ring_length c_a1_ring_members c_a1_ring_wants c_a1_lots_age c_a1_lots_runs c_a1_lots_wanting c_a1_lots_wanted c_a1_lots_answers c_a1_lots_memoKeys c_a1_lots_memos o4 o5 o6 o9 o8 o7 c_a1_row c_a2_askers c_a2_places c_a2_above c_a2_below c_a2_full c_a2_firsts c_a2_freed o14 c_a2_seats c_a2_wish c_a2_told c_a2_weight c_a2_count c_a2_found c_a2_cost c_a2_least c_a2_prefer c_a2_next c_a2_firstWorth c_a2_secondWorth c_a2_stand c_a2_served c_a2_points c_a2_can c_a2_ring c_a2_ways o17 o15 o16 (v3 + 4)
    else
      some 0)
def f_L_law_953 (N : Nat) (L : Nat) (c_a0 : Nat → Int32) (k18 : Int64 → Int64 → Int32 → Int32 → Int32 → (Nat → Int32) → (Nat → Int32) → (Nat → Int32) → (Nat → Int32) → (Nat → Int32) → Int32 → Int32 → Int32 → Int32 → (Nat → Int32) → (Nat → Int32) → (Nat → Int32) → (Nat → Int32) → (Nat → Int32) → (Nat → Int32) → (Nat → Int32) → (Nat → Int32) → (Nat → Int32) → (Nat → Int32) → Int32 → Int32 → Int32 → Int32 → (Nat → Int32) → (Nat → Int32) → (Nat → Int32) → (Nat → Int32) → (Nat → Int32) → (Nat → Int32) → (Nat → Int32) → (Nat → Int32) → (Nat → Int32) → (Nat → Int32) → Int32 → Int32 → Int32 → Int32 → (Nat → Int32) → (Nat → Int32) → (Nat → Int32) → (Nat → Int32) → (Nat → Int32) → (Nat → Int32) → (Nat → Int32) → (Nat → Int32) → (Nat → Int32) → (Nat → Int32) → Int32 → Int32 → (Nat → Int32) → (Nat → Int32) → (Nat → Int32) → (Nat → Int32) → (Nat → Int32) → (Nat → Int32) → Int32 → (Nat → Int32) → (Nat → Int32) → Int32 → Int64 → Int32 → Int32 → (Nat → Int32) → (Nat → Int64) → (Nat → Int32) → Int64 → Int64 → (Nat → Int64) → (Nat → Int64) → (Nat → Int32) → (Nat → Int32) → (Nat → Int32) → Int32 → Int32 → Int64 → Int64 → Int32 → Int32 → Int32 → Int64 → (Nat → Int32) → (Nat → Int32) → (Nat → Int32) → (Nat → Int32) → (Nat → Int64) → (Nat → Int32) → (Nat → Int64) → (Nat → Int64) → (Nat → Int32) → (Nat → Int32) → (Nat → Int32) → (Nat → Int32) → (Nat → Int64) → (Nat → Int32) → (Nat → Int32) → (Nat → Int32) → (Nat → Int32) → (Nat → Int32) → (Nat → Int64) → (Nat → Int64) → (Nat → Int32) → Int32 → Option Int32) (c_a1_above : Int64) (c_a1_below : Int64) (c_a1_board_askers : Int32) (c_a1_board_places : Int32) (c_a1_board_age : Int32) (c_a1_board_seats : Nat → Int32) (c_a1_board_wishes : Nat → Int32) (c_a1_board_likes : Nat → Int32) (c_a1_board_told : Nat → Int32) (c_a1_all_slots : Nat → Int32) (c_a1_all_askers : Int32) (c_a1_all_places : Int32) (c_a1_all_seatBits : Int32) (c_a1_all_entries : Int32) (c_a1_all_gains : Nat → Int32) (c_a1_all_solvedGains : Nat → Int32) (c_a1_all_left : Nat → Int32) (c_a1_all_best : Nat → Int32) (c_a1_all_ways : Nat → Int32) (c_a1_all_next : Nat → Int32) (c_a1_all_firstOf : Nat → Int32) (c_a1_all_clipAll : Nat → Int32) (c_a1_all_clipToOne : Nat → Int32) (c_a1_all_clipToTwo : Nat → Int32) (c_a1_steady_askers : Int32) (c_a1_steady_places : Int32) (c_a1_steady_seatBits : Int32) (c_a1_steady_entries : Int32) (c_a1_steady_gains : Nat → Int32) (c_a1_steady_solvedGains : Nat → Int32) (c_a1_steady_left : Nat → Int32) (c_a1_steady_best : Nat → Int32) (c_a1_steady_ways : Nat → Int32) (c_a1_steady_next : Nat → Int32) (c_a1_steady_firstOf : Nat → Int32) (c_a1_steady_clipAll : Nat → Int32) (c_a1_steady_clipToOne : Nat → Int32) (c_a1_steady_clipToTwo : Nat → Int32) (c_a1_aimed_askers : Int32) (c_a1_aimed_places : Int32) (c_a1_aimed_seatBits : Int32) (c_a1_aimed_entries : Int32) (c_a1_aimed_gains : Nat → Int32) (c_a1_aimed_solvedGains : Nat → Int32) (c_a1_aimed_left : Nat → Int32) (c_a1_aimed_best : Nat → Int32) (c_a1_aimed_ways : Nat → Int32) (c_a1_aimed_next : Nat → Int32) (c_a1_aimed_firstOf : Nat → Int32) (c_a1_aimed_clipAll : Nat → Int32) (c_a1_aimed_clipToOne : Nat → Int32) (c_a1_aimed_clipToTwo : Nat → Int32) (c_a1_steadiness_most : Int32) (c_a1_steadiness_tight : Int32) (c_a1_steadiness_firsts : Nat → Int32) (c_a1_trade_gets : Nat → Int32) (c_a1_trade_servedIn : Nat → Int32) (c_a1_trade_holds : Nat → Int32) (c_a1_trade_pointsAt : Nat → Int32) (c_a1_trade_holderOf : Nat → Int32) (c_a1_ring_length : Int32) (c_a1_ring_members : Nat → Int32) (c_a1_ring_wants : Nat → Int32) (c_a1_lots_age : Int32) (c_a1_lots_runs : Int64) (c_a1_lots_wanting : Int32) (c_a1_lots_wanted : Int32) (c_a1_lots_answers : Nat → Int32) (c_a1_lots_memoKeys : Nat → Int64) (c_a1_lots_memos : Nat → Int32) (c_a1_eating_whole : Int64) (c_a1_eating_time : Int64) (c_a1_eating_eaten : Nat → Int64) (c_a1_eating_rest : Nat → Int64) (c_a1_eating_eatsAt : Nat → Int32) (c_a1_eating_eaters : Nat → Int32) (c_a1_row : Nat → Int32) (c_a2_askers : Int32) (c_a2_places : Int32) (c_a2_above : Int64) (c_a2_below : Int64) (c_a2_full : Int32) (c_a2_firsts : Int32) (c_a2_freed : Int32) (c_a2_whole : Int64) (c_a2_seats : Nat → Int32) (c_a2_wish : Nat → Int32) (c_a2_told : Nat → Int32) (c_a2_weight : Nat → Int32) (c_a2_count : Nat → Int64) (c_a2_found : Nat → Int32) (c_a2_cost : Nat → Int64) (c_a2_least : Nat → Int64) (c_a2_prefer : Nat → Int32) (c_a2_next : Nat → Int32) (c_a2_firstWorth : Nat → Int32) (c_a2_secondWorth : Nat → Int32) (c_a2_stand : Nat → Int64) (c_a2_served : Nat → Int32) (c_a2_points : Nat → Int32) (c_a2_can : Nat → Int32) (c_a2_ring : Nat → Int32) (c_a2_ways : Nat → Int32) (c_a2_leftOf : Nat → Int64) (c_a2_ate : Nat → Int64) (c_a2_eats : Nat → Int32) (v3 : Int32) : Option Int32 :=
    (rdI L c_a0 (v3 + 1)).bind fun t1 =>
    (rdI L c_a0 (v3 + 2)).bind fun t2 =>
    (f_X7_share N c_a1_board_askers c_a1_board_places c_a1_board_likes c_a1_board_seats c_a1_above c_a1_below c_a1_eating_whole c_a1_eating_time c_a1_eating_eaten c_a1_eating_eaters c_a1_eating_eatsAt c_a1_eating_rest t1 t2).bind fun (r3, o4, o5, o6, o7, o8, o9, o10, o11) =>
    (rdI L c_a0 (v3 + 1)).bind fun t13 =>
    (rdI L c_a0 (v3 + 2)).bind fun t14 =>
    (f_X8_share N c_a2_askers c_a2_places c_a2_seats c_a2_wish c_a2_above c_a2_below c_a2_whole c_a2_ate c_a2_eats c_a2_leftOf t13 t14).bind fun (r15, o16, o17, o18, o19, o20, o21) =>
    (if r3 = r15 then
      k18 o4 o5 c_a1_board_askers c_a1_board_places c_a1_board_age c_a1_board_seats c_a1_board_wishes c_a1_board_likes c_a1_board_told c_a1_all_slots c_a1_all_askers c_a1_all_places c_a1_all_seatBits c_a1_all_entries c_a1_all_gains c_a1_all_solvedGains c_a1_all_left c_a1_all_best c_a1_all_ways c_a1_all_next c_a1_all_firstOf c_a1_all_clipAll c_a1_all_clipToOne c_a1_all_clipToTwo c_a1_steady_askers c_a1_steady_places c_a1_steady_seatBits c_a1_steady_entries c_a1_steady_gains c_a1_steady_solvedGains c_a1_steady_left c_a1_steady_best c_a1_steady_ways c_a1_steady_next c_a1_steady_firstOf c_a1_steady_clipAll c_a1_steady_clipToOne c_a1_steady_clipToTwo c_a1_aimed_askers c_a1_aimed_places c_a1_aimed_seatBits c_a1_aimed_entries c_a1_aimed_gains c_a1_aimed_solvedGains c_a1_aimed_left c_a1_aimed_best c_a1_aimed_ways c_a1_aimed_next c_a1_aimed_firstOf c_a1_aimed_clipAll c_a1_aimed_clipToOne c_a1_aimed_clipToTwo c_a1_steadiness_most c_a1_steadiness_tight c_a1_steadiness_firsts c_a1_trade_gets c_a1_trade_servedIn c_a1_trade_holds c_a1_trade_pointsAt c_a1_trade_holderOf c_a1_ring_length c_a1_ring_members c_a1_ring_wants c_a1_lots_age c_a1_lots_runs c_a1_lots_wanting c_a1_lots_wanted c_a1_lots_answers c_a1_lots_memoKeys c_a1_lots_memos o6 o7 o8 o11 o10 o9 c_a1_row c_a2_askers c_a2_places o16 o17 c_a2_full c_a2_firsts c_a2_freed o18 c_a2_seats c_a2_wish c_a2_told c_a2_weight c_a2_count c_a2_found c_a2_cost c_a2_least c_a2_prefer c_a2_next c_a2_firstWorth c_a2_secondWorth c_a2_stand c_a2_served c_a2_points c_a2_can c_a2_ring c_a2_ways o21 o19 o20 (v3 + 4)
    else
      some 0)
def f_L_law_920 (N : Nat) (L : Nat) (c_a0 : Nat → Int32) (k18 : Int64 → Int64 → Int32 → Int32 → Int32 → (Nat → Int32) → (Nat → Int32) → (Nat → Int32) → (Nat → Int32) → (Nat → Int32) → Int32 → Int32 → Int32 → Int32 → (Nat → Int32) → (Nat → Int32) → (Nat → Int32) → (Nat → Int32) → (Nat → Int32) → (Nat → Int32) → (Nat → Int32) → (Nat → Int32) → (Nat → Int32) → (Nat → Int32) → Int32 → Int32 → Int32 → Int32 → (Nat → Int32) → (Nat → Int32) → (Nat → Int32) → (Nat → Int32) → (Nat → Int32) → (Nat → Int32) → (Nat → Int32) → (Nat → Int32) → (Nat → Int32) → (Nat → Int32) → Int32 → Int32 → Int32 → Int32 → (Nat → Int32) → (Nat → Int32) → (Nat → Int32) → (Nat → Int32) → (Nat → Int32) → (Nat → Int32) → (Nat → Int32) → (Nat → Int32) → (Nat → Int32) → (Nat → Int32) → Int32 → Int32 → (Nat → Int32) → (Nat → Int32) → (Nat → Int32) → (Nat → Int32) → (Nat → Int32) → (Nat → Int32) → Int32 → (Nat → Int32) → (Nat → Int32) → Int32 → Int64 → Int32 → Int32 → (Nat → Int32) → (Nat → Int64) → (Nat → Int32) → Int64 → Int64 → (Nat → Int64) → (Nat → Int64) → (Nat → Int32) → (Nat → Int32) → (Nat → Int32) → Int32 → Int32 → Int64 → Int64 → Int32 → Int32 → Int32 → Int64 → (Nat → Int32) → (Nat → Int32) → (Nat → Int32) → (Nat → Int32) → (Nat → Int64) → (Nat → Int32) → (Nat → Int64) → (Nat → Int64) → (Nat → Int32) → (Nat → Int32) → (Nat → Int32) → (Nat → Int32) → (Nat → Int64) → (Nat → Int32) → (Nat → Int32) → (Nat → Int32) → (Nat → Int32) → (Nat → Int32) → (Nat → Int64) → (Nat → Int64) → (Nat → Int32) → Int32 → Option Int32) (c_a1_above : Int64) (c_a1_below : Int64) (c_a1_board_askers : Int32) (c_a1_board_places : Int32) (c_a1_board_age : Int32) (c_a1_board_seats : Nat → Int32) (c_a1_board_wishes : Nat → Int32) (c_a1_board_likes : Nat → Int32) (c_a1_board_told : Nat → Int32) (c_a1_all_slots : Nat → Int32) (c_a1_all_askers : Int32) (c_a1_all_places : Int32) (c_a1_all_seatBits : Int32) (c_a1_all_entries : Int32) (c_a1_all_gains : Nat → Int32) (c_a1_all_solvedGains : Nat → Int32) (c_a1_all_left : Nat → Int32) (c_a1_all_best : Nat → Int32) (c_a1_all_ways : Nat → Int32) (c_a1_all_next : Nat → Int32) (c_a1_all_firstOf : Nat → Int32) (c_a1_all_clipAll : Nat → Int32) (c_a1_all_clipToOne : Nat → Int32) (c_a1_all_clipToTwo : Nat → Int32) (c_a1_steady_askers : Int32) (c_a1_steady_places : Int32) (c_a1_steady_seatBits : Int32) (c_a1_steady_entries : Int32) (c_a1_steady_gains : Nat → Int32) (c_a1_steady_solvedGains : Nat → Int32) (c_a1_steady_left : Nat → Int32) (c_a1_steady_best : Nat → Int32) (c_a1_steady_ways : Nat → Int32) (c_a1_steady_next : Nat → Int32) (c_a1_steady_firstOf : Nat → Int32) (c_a1_steady_clipAll : Nat → Int32) (c_a1_steady_clipToOne : Nat → Int32) (c_a1_steady_clipToTwo : Nat → Int32) (c_a1_aimed_askers : Int32) (c_a1_aimed_places : Int32) (c_a1_aimed_seatBits : Int32) (c_a1_aimed_entries : Int32) (c_a1_aimed_gains : Nat → Int32) (c_a1_aimed_solvedGains : Nat → Int32) (c_a1_aimed_left : Nat → Int32) (c_a1_aimed_best : Nat → Int32) (c_a1_aimed_ways : Nat → Int32) (c_a1_aimed_next : Nat → Int32) (c_a1_aimed_firstOf : Nat → Int32) (c_a1_aimed_clipAll : Nat → Int32) (c_a1_aimed_clipToOne : Nat → Int32) (c_a1_aimed_clipToTwo : Nat → Int32) (c_a1_steadiness_most : Int32) (c_a1_steadiness_tight : Int32) (c_a1_steadiness_firsts : Nat → Int32) (c_a1_trade_gets : Nat → Int32) (c_a1_trade_servedIn : Nat → Int32) (c_a1_trade_holds : Nat → Int32) (c_a1_trade_pointsAt : Nat → Int32) (c_a1_trade_holderOf : Nat → Int32) (c_a1_ring_length : Int32) (c_a1_ring_members : Nat → Int32) (c_a1_ring_wants : Nat → Int32) (c_a1_lots_age : Int32) (c_a1_lots_runs : Int64) (c_a1_lots_wanting : Int32) (c_a1_lots_wanted : Int32) (c_a1_lots_answers : Nat → Int32) (c_a1_lots_memoKeys : Nat → Int64) (c_a1_lots_memos : Nat → Int32) (c_a1_eating_whole : Int64) (c_a1_eating_time : Int64) (c_a1_eating_eaten : Nat → Int64) (c_a1_eating_rest : Nat → Int64) (c_a1_eating_eatsAt : Nat → Int32) (c_a1_eating_eaters : Nat → Int32) (c_a1_row : Nat → Int32) (c_a2_askers : Int32) (c_a2_places : Int32) (c_a2_above : Int64) (c_a2_below : Int64) (c_a2_full : Int32) (c_a2_firsts : Int32) (c_a2_freed : Int32) (c_a2_whole : Int64) (c_a2_seats : Nat → Int32) (c_a2_wish : Nat → Int32) (c_a2_told : Nat → Int32) (c_a2_weight : Nat → Int32) (c_a2_count : Nat → Int64) (c_a2_found : Nat → Int32) (c_a2_cost : Nat → Int64) (c_a2_least : Nat → Int64) (c_a2_prefer : Nat → Int32) (c_a2_next : Nat → Int32) (c_a2_firstWorth : Nat → Int32) (c_a2_secondWorth : Nat → Int32) (c_a2_stand : Nat → Int64) (c_a2_served : Nat → Int32) (c_a2_points : Nat → Int32) (c_a2_can : Nat → Int32) (c_a2_ring : Nat → Int32) (c_a2_ways : Nat → Int32) (c_a2_leftOf : Nat → Int64) (c_a2_ate : Nat → Int64) (c_a2_eats : Nat → Int32) (v3 : Int32) : Option Int32 :=
    (rdI L c_a0 (v3 + 1)).bind fun t1 =>
    (rdI L c_a0 (v3 + 2)).bind fun t2 =>
    (f_X7_chance N c_a1_board_askers c_a1_board_places c_a1_board_age c_a1_board_likes c_a1_board_seats c_a1_board_wishes c_a1_lots_age c_a1_lots_runs c_a1_lots_wanting c_a1_lots_wanted c_a1_lots_answers c_a1_lots_memoKeys c_a1_lots_memos t1 t2).bind fun (r3, o4, o5, o6, o7, o8, o9, o10) =>
    (rdI L c_a0 (v3 + 1)).bind fun t12 =>
    (rdI L c_a0 (v3 + 2)).bind fun t13 =>
    (f_X8_chance N c_a2_askers c_a2_places c_a2_seats c_a2_wish c_a2_full c_a2_ways c_a2_weight t12 t13).bind fun (r14, o15, o16, o17) =>
    (if r3 = r14 then
      k18 c_a1_above c_a1_below c_a1_board_askers c_a1_board_places c_a1_board_age c_a1_board_seats c_a1_board_wishes c_a1_board_likes c_a1_board_told c_a1_all_slots c_a1_all_askers c_a1_all_places c_a1_all_seatBits c_a1_all_entries c_a1_all_gains c_a1_all_solvedGains c_a1_all_left c_a1_all_best c_a1_all_ways c_a1_all_next c_a1_all_firstOf c_a1_all_clipAll c_a1_all_clipToOne c_a1_all_clipToTwo c_a1_steady_askers c_a1_steady_places c_a1_steady_seatBits c_a1_steady_entries c_a1_steady_gains c_a1_steady_solvedGains c_a1_steady_left c_a1_steady_best c_a1_steady_ways c_a1_steady_next c_a1_steady_firstOf c_a1_steady_clipAll c_a1_steady_clipToOne c_a1_steady_clipToTwo c_a1_aimed_askers c_a1_aimed_places c_a1_aimed_seatBits c_a1_aimed_entries c_a1_aimed_gains c_a1_aimed_solvedGains c_a1_aimed_left c_a1_aimed_best c_a1_aimed_ways c_a1_aimed_next c_a1_aimed_firstOf c_a1_aimed_clipAll c_a1_aimed_clipToOne c_a1_aimed_clipToTwo c_a1_steadiness_most c_a1_steadiness_tight c_a1_steadiness_firsts c_a1_trade_gets c_a1_trade_servedIn c_a1_trade_holds c_a1_trade_pointsAt c_a1_trade_holderOf c_a1_ring_length c_a1_ring_members c_a1_ring_wants o4 o5 o6 o7 o8 o9 o10 c_a1_eating_whole c_a1_eating_time c_a1_eating_eaten c_a1_eating_rest c_a1_eating_eatsAt c_a1_eating_eaters c_a1_row c_a2_askers c_a2_places c_a2_above c_a2_below o15 c_a2_firsts c_a2_freed c_a2_whole c_a2_seats c_a2_wish c_a2_told o17 c_a2_count c_a2_found c_a2_cost c_a2_least c_a2_prefer c_a2_next c_a2_firstWorth c_a2_secondWorth c_a2_stand c_a2_served c_a2_points c_a2_can c_a2_ring o16 c_a2_leftOf c_a2_ate c_a2_eats (v3 + 4)
    else
      some 0)
def f_L_law_877 (N : Nat) (L : Nat) (c_a0 : Nat → Int32) (k18 : Int64 → Int64 → Int32 → Int32 → Int32 → (Nat → Int32) → (Nat → Int32) → (Nat → Int32) → (Nat → Int32) → (Nat → Int32) → Int32 → Int32 → Int32 → Int32 → (Nat → Int32) → (Nat → Int32) → (Nat → Int32) → (Nat → Int32) → (Nat → Int32) → (Nat → Int32) → (Nat → Int32) → (Nat → Int32) → (Nat → Int32) → (Nat → Int32) → Int32 → Int32 → Int32 → Int32 → (Nat → Int32) → (Nat → Int32) → (Nat → Int32) → (Nat → Int32) → (Nat → Int32) → (Nat → Int32) → (Nat → Int32) → (Nat → Int32) → (Nat → Int32) → (Nat → Int32) → Int32 → Int32 → Int32 → Int32 → (Nat → Int32) → (Nat → Int32) → (Nat → Int32) → (Nat → Int32) → (Nat → Int32) → (Nat → Int32) → (Nat → Int32) → (Nat → Int32) → (Nat → Int32) → (Nat → Int32) → Int32 → Int32 → (Nat → Int32) → (Nat → Int32) → (Nat → Int32) → (Nat → Int32) → (Nat → Int32) → (Nat → Int32) → Int32 → (Nat → Int32) → (Nat → Int32) → Int32 → Int64 → Int32 → Int32 → (Nat → Int32) → (Nat → Int64) → (Nat → Int32) → Int64 → Int64 → (Nat → Int64) → (Nat → Int64) → (Nat → Int32) → (Nat → Int32) → (Nat → Int32) → Int32 → Int32 → Int64 → Int64 → Int32 → Int32 → Int32 → Int64 → (Nat → Int32) → (Nat → Int32) → (Nat → Int32) → (Nat → Int32) → (Nat → Int64) → (Nat → Int32) → (Nat → Int64) → (Nat → Int64) → (Nat → Int32) → (Nat → Int32) → (Nat → Int32) → (Nat → Int32) → (Nat → Int64) → (Nat → Int32) → (Nat → Int32) → (Nat → Int32) → (Nat → Int32) → (Nat → Int32) → (Nat → Int64) → (Nat → Int64) → (Nat → Int32) → Int32 → Option Int32) (c_a1_above : Int64) (c_a1_below : Int64) (c_a1_board_askers : Int32) (c_a1_board_places : Int32) (c_a1_board_age : Int32) (c_a1_board_seats : Nat → Int32) (c_a1_board_wishes : Nat → Int32) (c_a1_board_likes : Nat → Int32) (c_a1_board_told : Nat → Int32) (c_a1_all_slots : Nat → Int32) (c_a1_all_askers : Int32) (c_a1_all_places : Int32) (c_a1_all_seatBits : Int32) (c_a1_all_entries : Int32) (c_a1_all_gains : Nat → Int32) (c_a1_all_solvedGains : Nat → Int32) (c_a1_all_left : Nat → Int32) (c_a1_all_best : Nat → Int32) (c_a1_all_ways : Nat → Int32) (c_a1_all_next : Nat → Int32) (c_a1_all_firstOf : Nat → Int32) (c_a1_all_clipAll : Nat → Int32) (c_a1_all_clipToOne : Nat → Int32) (c_a1_all_clipToTwo : Nat → Int32) (c_a1_steady_askers : Int32) (c_a1_steady_places : Int32) (c_a1_steady_seatBits : Int32) (c_a1_steady_entries : Int32) (c_a1_steady_gains : Nat → Int32) (c_a1_steady_solvedGains : Nat → Int32) (c_a1_steady_left : Nat → Int32) (c_a1_steady_best : Nat → Int32) (c_a1_steady_ways : Nat → Int32) (c_a1_steady_next : Nat → Int32) (c_a1_steady_firstOf : Nat → Int32) (c_a1_steady_clipAll : Nat → Int32) (c_a1_steady_clipToOne : Nat → Int32) (c_a1_steady_clipToTwo : Nat → Int32) (c_a1_aimed_askers : Int32) (c_a1_aimed_places : Int32) (c_a1_aimed_seatBits : Int32) (c_a1_aimed_entries : Int32) (c_a1_aimed_gains : Nat → Int32) (c_a1_aimed_solvedGains : Nat → Int32) (c_a1_aimed_left : Nat → Int32) (c_a1_aimed_best : Nat → Int32) (c_a1_aimed_ways : Nat → Int32) (c_a1_aimed_next : Nat → Int32) (c_a1_aimed_firstOf : Nat → Int32) (c_a1_aimed_clipAll : Nat → Int32) (c_a1_aimed_clipToOne : Nat → Int32) (c_a1_aimed_clipToTwo : Nat → Int32) (c_a1_steadiness_most : Int32) (c_a1_steadiness_tight : Int32) (c_a1_steadiness_firsts : Nat → Int32) (c_a1_trade_gets : Nat → Int32) (c_a1_trade_servedIn : Nat → Int32) (c_a1_trade_holds : Nat → Int32) (c_a1_trade_pointsAt : Nat → Int32) (c_a1_trade_holderOf : Nat → Int32) (c_a1_ring_length : Int32) (c_a1_ring_members : Nat → Int32) (c_a1_ring_wants : Nat → Int32) (c_a1_lots_age : Int32) (c_a1_lots_runs : Int64) (c_a1_lots_wanting : Int32) (c_a1_lots_wanted : Int32) (c_a1_lots_answers : Nat → Int32) (c_a1_lots_memoKeys : Nat → Int64) (c_a1_lots_memos : Nat → Int32) (c_a1_eating_whole : Int64) (c_a1_eating_time : Int64) (c_a1_eating_eaten : Nat → Int64) (c_a1_eating_rest : Nat → Int64) (c_a1_eating_eatsAt : Nat → Int32) (c_a1_eating_eaters : Nat → Int32) (c_a1_row : Nat → Int32) (c_a2_askers : Int32) (c_a2_places : Int32) (c_a2_above : Int64) (c_a2_below : Int64) (c_a2_full : Int32) (c_a2_firsts : Int32) (c_a2_freed : Int32) (c_a2_whole : Int64) (c_a2_seats : Nat → Int32) (c_a2_wish : Nat → Int32) (c_a2_told : Nat → Int32) (c_a2_weight : Nat → Int32) (c_a2_count : Nat → Int64) (c_a2_found : Nat → Int32) (c_a2_cost : Nat → Int64) (c_a2_least : Nat → Int64) (c_a2_prefer : Nat → Int32) (c_a2_next : Nat → Int32) (c_a2_firstWorth : Nat → Int32) (c_a2_secondWorth : Nat → Int32) (c_a2_stand : Nat → Int64) (c_a2_served : Nat → Int32) (c_a2_points : Nat → Int32) (c_a2_can : Nat → Int32) (c_a2_ring : Nat → Int32) (c_a2_ways : Nat → Int32) (c_a2_leftOf : Nat → Int64) (c_a2_ate : Nat → Int64) (c_a2_eats : Nat → Int32) (v3 : Int32) : Option Int32 :=
    (rdI L c_a0 (v3 + 1)).bind fun t1 =>
    (rdI L c_a0 (v3 + 2)).bind fun t2 =>
    (rdI L c_a0 (v3 + 3)).bind fun t3 =>
    (f_X7_leaving N c_a1_board_askers c_a1_board_told c_a1_board_wishes c_a1_ring_length c_a1_ring_members c_a1_ring_wants t1 t2 t3).bind fun (r4, o5, o6, o7) =>
    (rdI L c_a0 (v3 + 1)).bind fun t9 =>
    (rdI L c_a0 (v3 + 2)).bind fun t10 =>
    (rdI L c_a0 (v3 + 3)).bind fun t11 =>
    (f_X8_leaving N c_a2_askers c_a2_told c_a2_wish c_a2_can c_a2_ring t9 t10 t11).bind fun (r12, o13, o14) =>
    (if r4 = r12 then
      k18 c_a1_above c_a1_below c_a1_board_askers c_a1_board_places c_a1_board_age c_a1_board_seats c_a1_board_wishes c_a1_board_likes c_a1_board_told c_a1_all_slots c_a1_all_askers c_a1_all_places c_a1_all_seatBits c_a1_all_entries c_a1_all_gains c_a1_all_solvedGains c_a1_all_left c_a1_all_best c_a1_all_ways c_a1_all_next c_a1_all_firstOf c_a1_all_clipAll c_a1_all_clipToOne c_a1_all_clipToTwo c_a1_steady_askers c_a1_steady_places c_a1_steady_seatBits c_a1_steady_entries c_a1_steady_gains c_a1_steady_solvedGains c_a1_steady_left c_a1_steady_best c_a1_steady_ways c_a1_steady_next c_a1_steady_firstOf c_a1_steady_clipAll c_a1_steady_clipToOne c_a1_steady_clipToTwo c_a1_aimed_askers c_a1_aimed_places c_a1_aimed_seatBits c_a1_aimed_entries c_a1_aimed_gains c_a1_aimed_solvedGains c_a1_aimed_left c_a1_aimed_best c_a1_aimed_ways c_a1_aimed_next c_a1_aimed_firstOf c_a1_aimed_clipAll c_a1_aimed_clipToOne c_a1_aimed_clipToTwo c_a1_steadiness_most c_a1_steadiness_tight c_a1_steadiness_firsts c_a1_trade_gets c_a1_trade_servedIn c_a1_trade_holds c_a1_trade_pointsAt c_a1_trade_holderOf o5 o6 o7 c_a1_lots_age c_a1_lots_runs c_a1_lots_wanting c_a1_lots_wanted c_a1_lots_answers c_a1_lots_memoKeys c_a1_lots_memos c_a1_eating_whole c_a1_eating_time c_a1_eating_eaten c_a1_eating_rest c_a1_eating_eatsAt c_a1_eating_eaters c_a1_row c_a2_askers c_a2_places c_a2_above c_a2_below c_a2_full c_a2_firsts c_a2_freed c_a2_whole c_a2_seats c_a2_wish c_a2_told c_a2_weight c_a2_count c_a2_found c_a2_cost c_a2_least c_a2_prefer c_a2_next c_a2_firstWorth c_a2_secondWorth c_a2_stand c_a2_served c_a2_points o13 o14 c_a2_ways c_a2_leftOf c_a2_ate c_a2_eats (v3 + 4)
    else
      some 0)
def f_L_law_844 (N : Nat) (L : Nat) (c_a0 : Nat → Int32) (k18 : Int64 → Int64 → Int32 → Int32 → Int32 → (Nat → Int32) → (Nat → Int32) → (Nat → Int32) → (Nat → Int32) → (Nat → Int32) → Int32 → Int32 → Int32 → Int32 → (Nat → Int32) → (Nat → Int32) → (Nat → Int32) → (Nat → Int32) → (Nat → Int32) → (Nat → Int32) → (Nat → Int32) → (Nat → Int32) → (Nat → Int32) → (Nat → Int32) → Int32 → Int32 → Int32 → Int32 → (Nat → Int32) → (Nat → Int32) → (Nat → Int32) → (Nat → Int32) → (Nat → Int32) → (Nat → Int32) → (Nat → Int32) → (Nat → Int32) → (Nat → Int32) → (Nat → Int32) → Int32 → Int32 → Int32 → Int32 → (Nat → Int32) → (Nat → Int32) → (Nat → Int32) → (Nat → Int32) → (Nat → Int32) → (Nat → Int32) → (Nat → Int32) → (Nat → Int32) → (Nat → Int32) → (Nat → Int32) → Int32 → Int32 → (Nat → Int32) → (Nat → Int32) → (Nat → Int32) → (Nat → Int32) → (Nat → Int32) → (Nat → Int32) → Int32 → (Nat → Int32) → (Nat → Int32) → Int32 → Int64 → Int32 → Int32 → (Nat → Int32) → (Nat → Int64) → (Nat → Int32) → Int64 → Int64 → (Nat → Int64) → (Nat → Int64) → (Nat → Int32) → (Nat → Int32) → (Nat → Int32) → Int32 → Int32 → Int64 → Int64 → Int32 → Int32 → Int32 → Int64 → (Nat → Int32) → (Nat → Int32) → (Nat → Int32) → (Nat → Int32) → (Nat → Int64) → (Nat → Int32) → (Nat → Int64) → (Nat → Int64) → (Nat → Int32) → (Nat → Int32) → (Nat → Int32) → (Nat → Int32) → (Nat → Int64) → (Nat → Int32) → (Nat → Int32) → (Nat → Int32) → (Nat → Int32) → (Nat → Int32) → (Nat → Int64) → (Nat → Int64) → (Nat → Int32) → Int32 → Option Int32) (c_a1_above : Int64) (c_a1_below : Int64) (c_a1_board_askers : Int32) (c_a1_board_places : Int32) (c_a1_board_age : Int32) (c_a1_board_seats : Nat → Int32) (c_a1_board_wishes : Nat → Int32) (c_a1_board_likes : Nat → Int32) (c_a1_board_told : Nat → Int32) (c_a1_all_slots : Nat → Int32) (c_a1_all_askers : Int32) (c_a1_all_places : Int32) (c_a1_all_seatBits : Int32) (c_a1_all_entries : Int32) (c_a1_all_gains : Nat → Int32) (c_a1_all_solvedGains : Nat → Int32) (c_a1_all_left : Nat → Int32) (c_a1_all_best : Nat → Int32) (c_a1_all_ways : Nat → Int32) (c_a1_all_next : Nat → Int32) (c_a1_all_firstOf : Nat → Int32) (c_a1_all_clipAll : Nat → Int32) (c_a1_all_clipToOne : Nat → Int32) (c_a1_all_clipToTwo : Nat → Int32) (c_a1_steady_askers : Int32) (c_a1_steady_places : Int32) (c_a1_steady_seatBits : Int32) (c_a1_steady_entries : Int32) (c_a1_steady_gains : Nat → Int32) (c_a1_steady_solvedGains : Nat → Int32) (c_a1_steady_left : Nat → Int32) (c_a1_steady_best : Nat → Int32) (c_a1_steady_ways : Nat → Int32) (c_a1_steady_next : Nat → Int32) (c_a1_steady_firstOf : Nat → Int32) (c_a1_steady_clipAll : Nat → Int32) (c_a1_steady_clipToOne : Nat → Int32) (c_a1_steady_clipToTwo : Nat → Int32) (c_a1_aimed_askers : Int32) (c_a1_aimed_places : Int32) (c_a1_aimed_seatBits : Int32) (c_a1_aimed_entries : Int32) (c_a1_aimed_gains : Nat → Int32) (c_a1_aimed_solvedGains : Nat → Int32) (c_a1_aimed_left : Nat → Int32) (c_a1_aimed_best : Nat → Int32) (c_a1_aimed_ways : Nat → Int32) (c_a1_aimed_next : Nat → Int32) (c_a1_aimed_firstOf : Nat → Int32) (c_a1_aimed_clipAll : Nat → Int32) (c_a1_aimed_clipToOne : Nat → Int32) (c_a1_aimed_clipToTwo : Nat → Int32) (c_a1_steadiness_most : Int32) (c_a1_steadiness_tight : Int32) (c_a1_steadiness_firsts : Nat → Int32) (c_a1_trade_gets : Nat → Int32) (c_a1_trade_servedIn : Nat → Int32) (c_a1_trade_holds : Nat → Int32) (c_a1_trade_pointsAt : Nat → Int32) (c_a1_trade_holderOf : Nat → Int32) (c_a1_ring_length : Int32) (c_a1_ring_members : Nat → Int32) (c_a1_ring_wants : Nat → Int32) (c_a1_lots_age : Int32) (c_a1_lots_runs : Int64) (c_a1_lots_wanting : Int32) (c_a1_lots_wanted : Int32) (c_a1_lots_answers : Nat → Int32) (c_a1_lots_memoKeys : Nat → Int64) (c_a1_lots_memos : Nat → Int32) (c_a1_eating_whole : Int64) (c_a1_eating_time : Int64) (c_a1_eating_eaten : Nat → Int64) (c_a1_eating_rest : Nat → Int64) (c_a1_eating_eatsAt : Nat → Int32) (c_a1_eating_eaters : Nat → Int32) (c_a1_row : Nat → Int32) (c_a2_askers : Int32) (c_a2_places : Int32) (c_a2_above : Int64) (c_a2_below : Int64) (c_a2_full : Int32) (c_a2_firsts : Int32) (c_a2_freed : Int32) (c_a2_whole : Int64) (c_a2_seats : Nat → Int32) (c_a2_wish : Nat → Int32) (c_a2_told : Nat → Int32) (c_a2_weight : Nat → Int32) (c_a2_count : Nat → Int64) (c_a2_found : Nat → Int32) (c_a2_cost : Nat → Int64) (c_a2_least : Nat → Int64) (c_a2_prefer : Nat → Int32) (c_a2_next : Nat → Int32) (c_a2_firstWorth : Nat → Int32) (c_a2_secondWorth : Nat → Int32) (c_a2_stand : Nat → Int64) (c_a2_served : Nat → Int32) (c_a2_points : Nat → Int32) (c_a2_can : Nat → Int32) (c_a2_ring : Nat → Int32) (c_a2_ways : Nat → Int32) (c_a2_leftOf : Nat → Int64) (c_a2_ate : Nat → Int64) (c_a2_eats : Nat → Int32) (v3 : Int32) : Option Int32 :=
    (rdI L c_a0 (v3 + 1)).bind fun t1 =>
    (rdI L c_a0 (v3 + 2)).bind fun t2 =>
    (f_X7_round N c_a1_board_askers c_a1_board_places c_a1_board_told c_a1_board_wishes c_a1_trade_gets c_a1_trade_holderOf c_a1_trade_holds c_a1_trade_pointsAt c_a1_trade_servedIn t1 t2).bind fun (r3, o4, o5, o6, o7, o8) =>
    (rdI L c_a0 (v3 + 1)).bind fun t10 =>
    (rdI L c_a0 (v3 + 2)).bind fun t11 =>
    (f_X8_round N c_a2_askers c_a2_told c_a2_wish c_a2_found c_a2_points c_a2_served t10 t11).bind fun (r12, o13, o14, o15) =>
    (if r3 = r12 then
      k18 c_a1_above c_a1_below c_a1_board_askers c_a1_board_places c_a1_board_age c_a1_board_seats c_a1_board_wishes c_a1_board_likes c_a1_board_told c_a1_all_slots c_a1_all_askers c_a1_all_places c_a1_all_seatBits c_a1_all_entries c_a1_all_gains c_a1_all_solvedGains c_a1_all_left c_a1_all_best c_a1_all_ways c_a1_all_next c_a1_all_firstOf c_a1_all_clipAll c_a1_all_clipToOne c_a1_all_clipToTwo c_a1_steady_askers c_a1_steady_places c_a1_steady_seatBits c_a1_steady_entries c_a1_steady_gains c_a1_steady_solvedGains c_a1_steady_left c_a1_steady_best c_a1_steady_ways c_a1_steady_next c_a1_steady_firstOf c_a1_steady_clipAll c_a1_steady_clipToOne c_a1_steady_clipToTwo c_a1_aimed_askers c_a1_aimed_places c_a1_aimed_seatBits c_a1_aimed_entries c_a1_aimed_gains c_a1_aimed_solvedGains c_a1_aimed_left c_a1_aimed_best c_a1_aimed_ways c_a1_aimed_next c_a1_aimed_firstOf c_a1_aimed_clipAll c_a1_aimed_clipToOne c_a1_aimed_clipToTwo c_a1_steadiness_most c_a1_steadiness_tight c_a1_steadiness_firsts o4 o8 o6 o7 o5 c_a1_ring_length c_a1_ring_members c_a1_ring_wants c_a1_lots_age c_a1_lots_runs c_a1_lots_wanting c_a1_lots_wanted c_a1_lots_answers c_a1_lots_memoKeys c_a1_lots_memos c_a1_eating_whole c_a1_eating_time c_a1_eating_eaten c_a1_eating_rest c_a1_eating_eatsAt c_a1_eating_eaters c_a1_row c_a2_askers c_a2_places c_a2_above c_a2_below c_a2_full c_a2_firsts c_a2_freed c_a2_whole c_a2_seats c_a2_wish c_a2_told c_a2_weight c_a2_count o13 c_a2_cost c_a2_least c_a2_prefer c_a2_next c_a2_firstWorth c_a2_secondWorth c_a2_stand o15 o14 c_a2_can c_a2_ring c_a2_ways c_a2_leftOf c_a2_ate c_a2_eats (v3 + 4)
    else
      some 0)
def f_L_law_811 (N : Nat) (L : Nat) (c_a0 : Nat → Int32) (k18 : Int64 → Int64 → Int32 → Int32 → Int32 → (Nat → Int32) → (Nat → Int32) → (Nat → Int32) → (Nat → Int32) → (Nat → Int32) → Int32 → Int32 → Int32 → Int32 → (Nat → Int32) → (Nat → Int32) → (Nat → Int32) → (Nat → Int32) → (Nat → Int32) → (Nat → Int32) → (Nat → Int32) → (Nat → Int32) → (Nat → Int32) → (Nat → Int32) → Int32 → Int32 → Int32 → Int32 → (Nat → Int32) → (Nat → Int32) → (Nat → Int32) → (Nat → Int32) → (Nat → Int32) → (Nat → Int32) → (Nat → Int32) → (Nat → Int32) → (Nat → Int32) → (Nat → Int32) → Int32 → Int32 → Int32 → Int32 → (Nat → Int32) → (Nat → Int32) → (Nat → Int32) → (Nat → Int32) → (Nat → Int32) → (Nat → Int32) → (Nat → Int32) → (Nat → Int32) → (Nat → Int32) → (Nat → Int32) → Int32 → Int32 → (Nat → Int32) → (Nat → Int32) → (Nat → Int32) → (Nat → Int32) → (Nat → Int32) → (Nat → Int32) → Int32 → (Nat → Int32) → (Nat → Int32) → Int32 → Int64 → Int32 → Int32 → (Nat → Int32) → (Nat → Int64) → (Nat → Int32) → Int64 → Int64 → (Nat → Int64) → (Nat → Int64) → (Nat → Int32) → (Nat → Int32) → (Nat → Int32) → Int32 → Int32 → Int64 → Int64 → Int32 → Int32 → Int32 → Int64 → (Nat → Int32) → (Nat → Int32) → (Nat → Int32) → (Nat → Int32) → (Nat → Int64) → (Nat → Int32) → (Nat → Int64) → (Nat → Int64) → (Nat → Int32) → (Nat → Int32) → (Nat → Int32) → (Nat → Int32) → (Nat → Int64) → (Nat → Int32) → (Nat → Int32) → (Nat → Int32) → (Nat → Int32) → (Nat → Int32) → (Nat → Int64) → (Nat → Int64) → (Nat → Int32) → Int32 → Option Int32) (c_a1_above : Int64) (c_a1_below : Int64) (c_a1_board_askers : Int32) (c_a1_board_places : Int32) (c_a1_board_age : Int32) (c_a1_board_seats : Nat → Int32) (c_a1_board_wishes : Nat → Int32) (c_a1_board_likes : Nat → Int32) (c_a1_board_told : Nat → Int32) (c_a1_all_slots : Nat → Int32) (c_a1_all_askers : Int32) (c_a1_all_places : Int32) (c_a1_all_seatBits : Int32) (c_a1_all_entries : Int32) (c_a1_all_gains : Nat → Int32) (c_a1_all_solvedGains : Nat → Int32) (c_a1_all_left : Nat → Int32) (c_a1_all_best : Nat → Int32) (c_a1_all_ways : Nat → Int32) (c_a1_all_next : Nat → Int32) (c_a1_all_firstOf : Nat → Int32) (c_a1_all_clipAll : Nat → Int32) (c_a1_all_clipToOne : Nat → Int32) (c_a1_all_clipToTwo : Nat → Int32) (c_a1_steady_askers : Int32) (c_a1_steady_places : Int32) (c_a1_steady_seatBits : Int32) (c_a1_steady_entries : Int32) (c_a1_steady_gains : Nat → Int32) (c_a1_steady_solvedGains : Nat → Int32) (c_a1_steady_left : Nat → Int32) (c_a1_steady_best : Nat → Int32) (c_a1_steady_ways : Nat → Int32) (c_a1_steady_next : Nat → Int32) (c_a1_steady_firstOf : Nat → Int32) (c_a1_steady_clipAll : Nat → Int32) (c_a1_steady_clipToOne : Nat → Int32) (c_a1_steady_clipToTwo : Nat → Int32) (c_a1_aimed_askers : Int32) (c_a1_aimed_places : Int32) (c_a1_aimed_seatBits : Int32) (c_a1_aimed_entries : Int32) (c_a1_aimed_gains : Nat → Int32) (c_a1_aimed_solvedGains : Nat → Int32) (c_a1_aimed_left : Nat → Int32) (c_a1_aimed_best : Nat → Int32) (c_a1_aimed_ways : Nat → Int32) (c_a1_aimed_next : Nat → Int32) (c_a1_aimed_firstOf : Nat → Int32) (c_a1_aimed_clipAll : Nat → Int32) (c_a1_aimed_clipToOne : Nat → Int32) (c_a1_aimed_clipToTwo : Nat → Int32) (c_a1_steadiness_most : Int32) (c_a1_steadiness_tight : Int32) (c_a1_steadiness_firsts : Nat → Int32) (c_a1_trade_gets : Nat → Int32) (c_a1_trade_servedIn : Nat → Int32) (c_a1_trade_holds : Nat → Int32) (c_a1_trade_pointsAt : Nat → Int32) (c_a1_trade_holderOf : Nat → Int32) (c_a1_ring_length : Int32) (c_a1_ring_members : Nat → Int32) (c_a1_ring_wants : Nat → Int32) (c_a1_lots_age : Int32) (c_a1_lots_runs : Int64) (c_a1_lots_wanting : Int32) (c_a1_lots_wanted : Int32) (c_a1_lots_answers : Nat → Int32) (c_a1_lots_memoKeys : Nat → Int64) (c_a1_lots_memos : Nat → Int32) (c_a1_eating_whole : Int64) (c_a1_eating_time : Int64) (c_a1_eating_eaten : Nat → Int64) (c_a1_eating_rest : Nat → Int64) (c_a1_eating_eatsAt : Nat → Int32) (c_a1_eating_eaters : Nat → Int32) (c_a1_row : Nat → Int32) (c_a2_askers : Int32) (c_a2_places : Int32) (c_a2_above : Int64) (c_a2_below : Int64) (c_a2_full : Int32) (c_a2_firsts : Int32) (c_a2_freed : Int32) (c_a2_whole : Int64) (c_a2_seats : Nat → Int32) (c_a2_wish : Nat → Int32) (c_a2_told : Nat → Int32) (c_a2_weight : Nat → Int32) (c_a2_count : Nat → Int64) (c_a2_found : Nat → Int32) (c_a2_cost : Nat → Int64) (c_a2_least : Nat → Int64) (c_a2_prefer : Nat → Int32) (c_a2_next : Nat → Int32) (c_a2_firstWorth : Nat → Int32) (c_a2_secondWorth : Nat → Int32) (c_a2_stand : Nat → Int64) (c_a2_served : Nat → Int32) (c_a2_points : Nat → Int32) (c_a2_can : Nat → Int32) (c_a2_ring : Nat → Int32) (c_a2_ways : Nat → Int32) (c_a2_leftOf : Nat → Int64) (c_a2_ate : Nat → Int64) (c_a2_eats : Nat → Int32) (v3 : Int32) : Option Int32 :=
    (rdI L c_a0 (v3 + 1)).bind fun t1 =>
    (rdI L c_a0 (v3 + 2)).bind fun t2 =>
    (f_X7_turn N c_a1_board_askers c_a1_board_places c_a1_board_seats c_a1_board_wishes c_a1_aimed_askers c_a1_aimed_places c_a1_aimed_seatBits c_a1_aimed_entries c_a1_row c_a1_aimed_best c_a1_aimed_clipAll c_a1_aimed_clipToOne c_a1_aimed_clipToTwo c_a1_aimed_firstOf c_a1_aimed_gains c_a1_aimed_left c_a1_aimed_next c_a1_aimed_solvedGains c_a1_aimed_ways c_a1_all_slots t1 t2).bind fun (r3, o4, o5, o6, o7, o8, o9, o10, o11, o12, o13, o14, o15, o16, o17, o18, o19) =>
    (rdI L c_a0 (v3 + 1)).bind fun t21 =>
    (rdI L c_a0 (v3 + 2)).bind fun t22 =>
    (f_X8_turn N c_a2_askers c_a2_places c_a2_seats c_a2_wish c_a2_full c_a2_cost c_a2_found c_a2_least c_a2_weight t21 t22).bind fun (r23, o24, o25, o26, o27, o28) =>
    (if r3 = r23 then
      k18 c_a1_above c_a1_below c_a1_board_askers c_a1_board_places c_a1_board_age c_a1_board_seats c_a1_board_wishes c_a1_board_likes c_a1_board_told o19 c_a1_all_askers c_a1_all_places c_a1_all_seatBits c_a1_all_entries c_a1_all_gains c_a1_all_solvedGains c_a1_all_left c_a1_all_best c_a1_all_ways c_a1_all_next c_a1_all_firstOf c_a1_all_clipAll c_a1_all_clipToOne c_a1_all_clipToTwo c_a1_steady_askers c_a1_steady_places c_a1_steady_seatBits c_a1_steady_entries c_a1_steady_gains c_a1_steady_solvedGains c_a1_steady_left c_a1_steady_best c_a1_steady_ways c_a1_steady_next c_a1_steady_firstOf c_a1_steady_clipAll c_a1_steady_clipToOne c_a1_steady_clipToTwo o4 o5 o6 o7 o14 o17 o15 o9 o18 o16 o13 o10 o11 o12 c_a1_steadiness_most c_a1_steadiness_tight c_a1_steadiness_firsts c_a1_trade_gets c_a1_trade_servedIn c_a1_trade_holds c_a1_trade_pointsAt c_a1_trade_holderOf c_a1_ring_length c_a1_ring_members c_a1_ring_wants c_a1_lots_age c_a1_lots_runs c_a1_lots_wanting c_a1_lots_wanted c_a1_lots_answers c_a1_lots_memoKeys c_a1_lots_memos c_a1_eating_whole c_a1_eating_time c_a1_eating_eaten c_a1_eating_rest c_a1_eating_eatsAt c_a1_eating_eaters o8 c_a2_askers c_a2_places c_a2_above c_a2_below o24 c_a2_firsts c_a2_freed c_a2_whole c_a2_seats c_a2_wish c_a2_told o28 c_a2_count o26 o25 o27 c_a2_prefer c_a2_next c_a2_firstWorth c_a2_secondWorth c_a2_stand c_a2_served c_a2_points c_a2_can c_a2_ring c_a2_ways c_a2_leftOf c_a2_ate c_a2_eats (v3 + 4)
    else
      some 0)
def f_L_law_788 (N : Nat) (L : Nat) (c_a0 : Nat → Int32) (k18 : Int64 → Int64 → Int32 → Int32 → Int32 → (Nat → Int32) → (Nat → Int32) → (Nat → Int32) → (Nat → Int32) → (Nat → Int32) → Int32 → Int32 → Int32 → Int32 → (Nat → Int32) → (Nat → Int32) → (Nat → Int32) → (Nat → Int32) → (Nat → Int32) → (Nat → Int32) → (Nat → Int32) → (Nat → Int32) → (Nat → Int32) → (Nat → Int32) → Int32 → Int32 → Int32 → Int32 → (Nat → Int32) → (Nat → Int32) → (Nat → Int32) → (Nat → Int32) → (Nat → Int32) → (Nat → Int32) → (Nat → Int32) → (Nat → Int32) → (Nat → Int32) → (Nat → Int32) → Int32 → Int32 → Int32 → Int32 → (Nat → Int32) → (Nat → Int32) → (Nat → Int32) → (Nat → Int32) → (Nat → Int32) → (Nat → Int32) → (Nat → Int32) → (Nat → Int32) → (Nat → Int32) → (Nat → Int32) → Int32 → Int32 → (Nat → Int32) → (Nat → Int32) → (Nat → Int32) → (Nat → Int32) → (Nat → Int32) → (Nat → Int32) → Int32 → (Nat → Int32) → (Nat → Int32) → Int32 → Int64 → Int32 → Int32 → (Nat → Int32) → (Nat → Int64) → (Nat → Int32) → Int64 → Int64 → (Nat → Int64) → (Nat → Int64) → (Nat → Int32) → (Nat → Int32) → (Nat → Int32) → Int32 → Int32 → Int64 → Int64 → Int32 → Int32 → Int32 → Int64 → (Nat → Int32) → (Nat → Int32) → (Nat → Int32) → (Nat → Int32) → (Nat → Int64) → (Nat → Int32) → (Nat → Int64) → (Nat → Int64) → (Nat → Int32) → (Nat → Int32) → (Nat → Int32) → (Nat → Int32) → (Nat → Int64) → (Nat → Int32) → (Nat → Int32) → (Nat → Int32) → (Nat → Int32) → (Nat → Int32) → (Nat → Int64) → (Nat → Int64) → (Nat → Int32) → Int32 → Option Int32) (c_a1_above : Int64) (c_a1_below : Int64) (c_a1_board_askers : Int32) (c_a1_board_places : Int32) (c_a1_board_age : Int32) (c_a1_board_seats : Nat → Int32) (c_a1_board_wishes : Nat → Int32) (c_a1_board_likes : Nat → Int32) (c_a1_board_told : Nat → Int32) (c_a1_all_slots : Nat → Int32) (c_a1_all_askers : Int32) (c_a1_all_places : Int32) (c_a1_all_seatBits : Int32) (c_a1_all_entries : Int32) (c_a1_all_gains : Nat → Int32) (c_a1_all_solvedGains : Nat → Int32) (c_a1_all_left : Nat → Int32) (c_a1_all_best : Nat → Int32) (c_a1_all_ways : Nat → Int32) (c_a1_all_next : Nat → Int32) (c_a1_all_firstOf : Nat → Int32) (c_a1_all_clipAll : Nat → Int32) (c_a1_all_clipToOne : Nat → Int32) (c_a1_all_clipToTwo : Nat → Int32) (c_a1_steady_askers : Int32) (c_a1_steady_places : Int32) (c_a1_steady_seatBits : Int32) (c_a1_steady_entries : Int32) (c_a1_steady_gains : Nat → Int32) (c_a1_steady_solvedGains : Nat → Int32) (c_a1_steady_left : Nat → Int32) (c_a1_steady_best : Nat → Int32) (c_a1_steady_ways : Nat → Int32) (c_a1_steady_next : Nat → Int32) (c_a1_steady_firstOf : Nat → Int32) (c_a1_steady_clipAll : Nat → Int32) (c_a1_steady_clipToOne : Nat → Int32) (c_a1_steady_clipToTwo : Nat → Int32) (c_a1_aimed_askers : Int32) (c_a1_aimed_places : Int32) (c_a1_aimed_seatBits : Int32) (c_a1_aimed_entries : Int32) (c_a1_aimed_gains : Nat → Int32) (c_a1_aimed_solvedGains : Nat → Int32) (c_a1_aimed_left : Nat → Int32) (c_a1_aimed_best : Nat → Int32) (c_a1_aimed_ways : Nat → Int32) (c_a1_aimed_next : Nat → Int32) (c_a1_aimed_firstOf : Nat → Int32) (c_a1_aimed_clipAll : Nat → Int32) (c_a1_aimed_clipToOne : Nat → Int32) (c_a1_aimed_clipToTwo : Nat → Int32) (c_a1_steadiness_most : Int32) (c_a1_steadiness_tight : Int32) (c_a1_steadiness_firsts : Nat → Int32) (c_a1_trade_gets : Nat → Int32) (c_a1_trade_servedIn : Nat → Int32) (c_a1_trade_holds : Nat → Int32) (c_a1_trade_pointsAt : Nat → Int32) (c_a1_trade_holderOf : Nat → Int32) (c_a1_ring_length : Int32) (c_a1_ring_members : Nat → Int32) (c_a1_ring_wants : Nat → Int32) (c_a1_lots_age : Int32) (c_a1_lots_runs : Int64) (c_a1_lots_wanting : Int32) (c_a1_lots_wanted : Int32) (c_a1_lots_answers : Nat → Int32) (c_a1_lots_memoKeys : Nat → Int64) (c_a1_lots_memos : Nat → Int32) (c_a1_eating_whole : Int64) (c_a1_eating_time : Int64) (c_a1_eating_eaten : Nat → Int64) (c_a1_eating_rest : Nat → Int64) (c_a1_eating_eatsAt : Nat → Int32) (c_a1_eating_eaters : Nat → Int32) (c_a1_row : Nat → Int32) (c_a2_askers : Int32) (c_a2_places : Int32) (c_a2_above : Int64) (c_a2_below : Int64) (c_a2_full : Int32) (c_a2_firsts : Int32) (c_a2_freed : Int32) (c_a2_whole : Int64) (c_a2_seats : Nat → Int32) (c_a2_wish : Nat → Int32) (c_a2_told : Nat → Int32) (c_a2_weight : Nat → Int32) (c_a2_count : Nat → Int64) (c_a2_found : Nat → Int32) (c_a2_cost : Nat → Int64) (c_a2_least : Nat → Int64) (c_a2_prefer : Nat → Int32) (c_a2_next : Nat → Int32) (c_a2_firstWorth : Nat → Int32) (c_a2_secondWorth : Nat → Int32) (c_a2_stand : Nat → Int64) (c_a2_served : Nat → Int32) (c_a2_points : Nat → Int32) (c_a2_can : Nat → Int32) (c_a2_ring : Nat → Int32) (c_a2_ways : Nat → Int32) (c_a2_leftOf : Nat → Int64) (c_a2_ate : Nat → Int64) (c_a2_eats : Nat → Int32) (v3 : Int32) : Option Int32 :=
    (rdI L c_a0 (v3 + 1)).bind fun t1 =>
    (f_X7_standingMany N c_a1_board_askers c_a1_board_places c_a1_board_likes c_a1_board_seats c_a1_board_wishes c_a1_aimed_askers c_a1_aimed_places c_a1_aimed_seatBits c_a1_aimed_entries c_a1_steadiness_most c_a1_steadiness_tight c_a1_steady_askers c_a1_steady_places c_a1_steady_seatBits c_a1_steady_entries c_a1_aimed_best c_a1_aimed_clipAll c_a1_aimed_clipToOne c_a1_aimed_clipToTwo c_a1_aimed_firstOf c_a1_aimed_gains c_a1_aimed_left c_a1_aimed_next c_a1_aimed_solvedGains c_a1_aimed_ways c_a1_all_slots c_a1_steadiness_firsts c_a1_steady_best c_a1_steady_clipAll c_a1_steady_clipToOne c_a1_steady_clipToTwo c_a1_steady_firstOf c_a1_steady_gains c_a1_steady_left c_a1_steady_next c_a1_steady_solvedGains c_a1_steady_ways t1).bind fun (r2, o3, o4, o5, o6, o7, o8, o9, o10, o11, o12, o13, o14, o15, o16, o17, o18, o19, o20, o21, o22, o23, o24, o25, o26, o27, o28, o29, o30, o31, o32, o33, o34) =>
    (rdI L c_a0 (v3 + 1)).bind fun t36 =>
    (f_X8_standingMany N c_a2_askers c_a2_places c_a2_wish c_a2_full c_a2_firsts c_a2_freed c_a2_cost c_a2_firstWorth c_a2_found c_a2_least c_a2_seats c_a2_secondWorth c_a2_stand c_a2_weight t36).bind fun (r37, o38, o39, o40, o41, o42, o43, o44, o45, o46, o47, o48) =>
    (if r2 = r37 then
      k18 c_a1_above c_a1_below c_a1_board_askers c_a1_board_places c_a1_board_age c_a1_board_seats c_a1_board_wishes c_a1_board_likes c_a1_board_told o23 c_a1_all_askers c_a1_all_places c_a1_all_seatBits c_a1_all_entries c_a1_all_gains c_a1_all_solvedGains c_a1_all_left c_a1_all_best c_a1_all_ways c_a1_all_next c_a1_all_firstOf c_a1_all_clipAll c_a1_all_clipToOne c_a1_all_clipToTwo o9 o10 o11 o12 o30 o33 o31 o25 o34 o32 o29 o26 o27 o28 o3 o4 o5 o6 o18 o21 o19 o13 o22 o20 o17 o14 o15 o16 o7 o8 o24 c_a1_trade_gets c_a1_trade_servedIn c_a1_trade_holds c_a1_trade_pointsAt c_a1_trade_holderOf c_a1_ring_length c_a1_ring_members c_a1_ring_wants c_a1_lots_age c_a1_lots_runs c_a1_lots_wanting c_a1_lots_wanted c_a1_lots_answers c_a1_lots_memoKeys c_a1_lots_memos c_a1_eating_whole c_a1_eating_time c_a1_eating_eaten c_a1_eating_rest c_a1_eating_eatsAt c_a1_eating_eaters c_a1_row c_a2_askers c_a2_places c_a2_above c_a2_below o38 o39 o40 c_a2_whole o45 c_a2_wish c_a2_told o48 c_a2_count o43 o41 o44 c_a2_prefer c_a2_next o42 o46 o47 c_a2_served c_a2_points c_a2_can c_a2_ring c_a2_ways c_a2_leftOf c_a2_ate c_a2_eats (v3 + 4)
    else
      some 0)
def f_L_law_725 (N : Nat) (L : Nat) (c_a0 : Nat → Int32) (k18 : Int64 → Int64 → Int32 → Int32 → Int32 → (Nat → Int32) → (Nat → Int32) → (Nat → Int32) → (Nat → Int32) → (Nat → Int32) → Int32 → Int32 → Int32 → Int32 → (Nat → Int32) → (Nat → Int32) → (Nat → Int32) → (Nat → Int32) → (Nat → Int32) → (Nat → Int32) → (Nat → Int32) → (Nat → Int32) → (Nat → Int32) → (Nat → Int32) → Int32 → Int32 → Int32 → Int32 → (Nat → Int32) → (Nat → Int32) → (Nat → Int32) → (Nat → Int32) → (Nat → Int32) → (Nat → Int32) → (Nat → Int32) → (Nat → Int32) → (Nat → Int32) → (Nat → Int32) → Int32 → Int32 → Int32 → Int32 → (Nat → Int32) → (Nat → Int32) → (Nat → Int32) → (Nat → Int32) → (Nat → Int32) → (Nat → Int32) → (Nat → Int32) → (Nat → Int32) → (Nat → Int32) → (Nat → Int32) → Int32 → Int32 → (Nat → Int32) → (Nat → Int32) → (Nat → Int32) → (Nat → Int32) → (Nat → Int32) → (Nat → Int32) → Int32 → (Nat → Int32) → (Nat → Int32) → Int32 → Int64 → Int32 → Int32 → (Nat → Int32) → (Nat → Int64) → (Nat → Int32) → Int64 → Int64 → (Nat → Int64) → (Nat → Int64) → (Nat → Int32) → (Nat → Int32) → (Nat → Int32) → Int32 → Int32 → Int64 → Int64 → Int32 → Int32 → Int32 → Int64 → (Nat → Int32) → (Nat → Int32) → (Nat → Int32) → (Nat → Int32) → (Nat → Int64) → (Nat → Int32) → (Nat → Int64) → (Nat → Int64) → (Nat → Int32) → (Nat → Int32) → (Nat → Int32) → (Nat → Int32) → (Nat → Int64) → (Nat → Int32) → (Nat → Int32) → (Nat → Int32) → (Nat → Int32) → (Nat → Int32) → (Nat → Int64) → (Nat → Int64) → (Nat → Int32) → Int32 → Option Int32) (c_a1_above : Int64) (c_a1_below : Int64) (c_a1_board_askers : Int32) (c_a1_board_places : Int32) (c_a1_board_age : Int32) (c_a1_board_seats : Nat → Int32) (c_a1_board_wishes : Nat → Int32) (c_a1_board_likes : Nat → Int32) (c_a1_board_told : Nat → Int32) (c_a1_all_slots : Nat → Int32) (c_a1_all_askers : Int32) (c_a1_all_places : Int32) (c_a1_all_seatBits : Int32) (c_a1_all_entries : Int32) (c_a1_all_gains : Nat → Int32) (c_a1_all_solvedGains : Nat → Int32) (c_a1_all_left : Nat → Int32) (c_a1_all_best : Nat → Int32) (c_a1_all_ways : Nat → Int32) (c_a1_all_next : Nat → Int32) (c_a1_all_firstOf : Nat → Int32) (c_a1_all_clipAll : Nat → Int32) (c_a1_all_clipToOne : Nat → Int32) (c_a1_all_clipToTwo : Nat → Int32) (c_a1_steady_askers : Int32) (c_a1_steady_places : Int32) (c_a1_steady_seatBits : Int32) (c_a1_steady_entries : Int32) (c_a1_steady_gains : Nat → Int32) (c_a1_steady_solvedGains : Nat → Int32) (c_a1_steady_left : Nat → Int32) (c_a1_steady_best : Nat → Int32) (c_a1_steady_ways : Nat → Int32) (c_a1_steady_next : Nat → Int32) (c_a1_steady_firstOf : Nat → Int32) (c_a1_steady_clipAll : Nat → Int32) (c_a1_steady_clipToOne : Nat → Int32) (c_a1_steady_clipToTwo : Nat → Int32) (c_a1_aimed_askers : Int32) (c_a1_aimed_places : Int32) (c_a1_aimed_seatBits : Int32) (c_a1_aimed_entries : Int32) (c_a1_aimed_gains : Nat → Int32) (c_a1_aimed_solvedGains : Nat → Int32) (c_a1_aimed_left : Nat → Int32) (c_a1_aimed_best : Nat → Int32) (c_a1_aimed_ways : Nat → Int32) (c_a1_aimed_next : Nat → Int32) (c_a1_aimed_firstOf : Nat → Int32) (c_a1_aimed_clipAll : Nat → Int32) (c_a1_aimed_clipToOne : Nat → Int32) (c_a1_aimed_clipToTwo : Nat → Int32) (c_a1_steadiness_most : Int32) (c_a1_steadiness_tight : Int32) (c_a1_steadiness_firsts : Nat → Int32) (c_a1_trade_gets : Nat → Int32) (c_a1_trade_servedIn : Nat → Int32) (c_a1_trade_holds : Nat → Int32) (c_a1_trade_pointsAt : Nat → Int32) (c_a1_trade_holderOf : Nat → Int32) (c_a1_ring_length : Int32) (c_a1_ring_members : Nat → Int32) (c_a1_ring_wants : Nat → Int32) (c_a1_lots_age : Int32) (c_a1_lots_runs : Int64) (c_a1_lots_wanting : Int32) (c_a1_lots_wanted : Int32) (c_a1_lots_answers : Nat → Int32) (c_a1_lots_memoKeys : Nat → Int64) (c_a1_lots_memos : Nat → Int32) (c_a1_eating_whole : Int64) (c_a1_eating_time : Int64) (c_a1_eating_eaten : Nat → Int64) (c_a1_eating_rest : Nat → Int64) (c_a1_eating_eatsAt : Nat → Int32) (c_a1_eating_eaters : Nat → Int32) (c_a1_row : Nat → Int32) (c_a2_askers : Int32) (c_a2_places : Int32) (c_a2_above : Int64) (c_a2_below : Int64) (c_a2_full : Int32) (c_a2_firsts : Int32) (c_a2_freed : Int32) (c_a2_whole : Int64) (c_a2_seats : Nat → Int32) (c_a2_wish : Nat → Int32) (c_a2_told : Nat → Int32) (c_a2_weight : Nat → Int32) (c_a2_count : Nat → Int64) (c_a2_found : Nat → Int32) (c_a2_cost : Nat → Int64) (c_a2_least : Nat → Int64) (c_a2_prefer : Nat → Int32) (c_a2_next : Nat → Int32) (c_a2_firstWorth : Nat → Int32) (c_a2_secondWorth : Nat → Int32) (c_a2_stand : Nat → Int64) (c_a2_served : Nat → Int32) (c_a2_points : Nat → Int32) (c_a2_can : Nat → Int32) (c_a2_ring : Nat → Int32) (c_a2_ways : Nat → Int32) (c_a2_leftOf : Nat → Int64) (c_a2_ate : Nat → Int64) (c_a2_eats : Nat → Int32) (v3 : Int32) : Option Int32 :=
    (rdI L c_a0 (v3 + 1)).bind fun t1 =>
    (rdI L c_a0 (v3 + 2)).bind fun t2 =>
    (rdI L c_a0 (v3 + 3)).bind fun t3 =>
    (f_X7_standingAt N c_a1_board_askers c_a1_board_places c_a1_board_likes c_a1_board_seats c_a1_board_wishes c_a1_row c_a1_steadiness_most c_a1_steadiness_tight c_a1_steady_askers c_a1_steady_places c_a1_steady_seatBits c_a1_steady_entries c_a1_all_slots c_a1_steadiness_firsts c_a1_steady_best c_a1_steady_clipAll c_a1_steady_clipToOne c_a1_steady_clipToTwo c_a1_steady_firstOf c_a1_steady_gains c_a1_steady_left c_a1_steady_next c_a1_steady_solvedGains c_a1_steady_ways ((t1.toInt64 <<< ((32 : Int32).toInt64 &&& 63)) ||| (t2.toInt64 &&& (4294967295 : Int64))) t3).bind fun (r4, o5, o6, o7, o8, o9, o10, o11, o12, o13, o14, o15, o16, o17, o18, o19, o20, o21, o22, o23) =>
    (rdI L c_a0 (v3 + 1)).bind fun t25 =>
    (rdI L c_a0 (v3 + 2)).bind fun t26 =>
    (rdI L c_a0 (v3 + 3)).bind fun t27 =>
    (f_X8_standingAt N c_a2_askers c_a2_places c_a2_wish c_a2_full c_a2_firsts c_a2_freed c_a2_cost c_a2_firstWorth c_a2_found c_a2_least c_a2_seats c_a2_secondWorth c_a2_stand c_a2_weight ((t25.toInt64 <<< ((32 : Int32).toInt64 &&& 63)) ||| (t26.toInt64 &&& (4294967295 : Int64))) t27).bind fun (r28, o29, o30, o31, o32, o33, o34, o35, o36, o37, o38, o39) =>
    (if r4 = r28 then
      k18 c_a1_above c_a1_below c_a1_board_askers c_a1_board_places c_a1_board_age c_a1_board_seats c_a1_board_wishes c_a1_board_likes c_a1_board_told o12 c_a1_all_askers c_a1_all_places c_a1_all_seatBits c_a1_all_entries c_a1_all_gains c_a1_all_solvedGains c_a1_all_left c_a1_all_best c_a1_all_ways c_a1_all_next c_a1_all_firstOf c_a1_all_clipAll c_a1_all_clipToOne c_a1_all_clipToTwo o8 o9 o10 o11 o19 o22 o20 o14 o23 o21 o18 o15 o16 o17 c_a1_aimed_askers c_a1_aimed_places c_a1_aimed_seatBits c_a1_aimed_entries c_a1_aimed_gains c_a1_aimed_solvedGains c_a1_aimed_left c_a1_aimed_best c_a1_aimed_ways c_a1_aimed_next c_a1_aimed_firstOf c_a1_aimed_clipAll c_a1_aimed_clipToOne c_a1_aimed_clipToTwo o6 o7 o13 c_a1_trade_gets c_a1_trade_servedIn c_a1_trade_holds c_a1_trade_pointsAt c_a1_trade_holderOf c_a1_ring_length c_a1_ring_members c_a1_ring_wants c_a1_lots_age c_a1_lots_runs c_a1_lots_wanting c_a1_lots_wanted c_a1_lots_answers c_a1_lots_memoKeys c_a1_lots_memos c_a1_eating_whole c_a1_eating_time c_a1_eating_eaten c_a1_eating_rest c_a1_eating_eatsAt c_a1_eating_eaters o5 c_a2_askers c_a2_places c_a2_above c_a2_below o29 o30 o31 c_a2_whole o36 c_a2_wish c_a2_told o39 c_a2_count o34 o32 o35 c_a2_prefer c_a2_next o33 o37 o38 c_a2_served c_a2_points c_a2_can c_a2_ring c_a2_ways c_a2_leftOf c_a2_ate c_a2_eats (v3 + 4)
    else
      some 0)
def f_L_law_711 (N : Nat) (L : Nat) (c_a0 : Nat → Int32) (k18 : Int64 → Int64 → Int32 → Int32 → Int32 → (Nat → Int32) → (Nat → Int32) → (Nat → Int32) → (Nat → Int32) → (Nat → Int32) → Int32 → Int32 → Int32 → Int32 → (Nat → Int32) → (Nat → Int32) → (Nat → Int32) → (Nat → Int32) → (Nat → Int32) → (Nat → Int32) → (Nat → Int32) → (Nat → Int32) → (Nat → Int32) → (Nat → Int32) → Int32 → Int32 → Int32 → Int32 → (Nat → Int32) → (Nat → Int32) → (Nat → Int32) → (Nat → Int32) → (Nat → Int32) → (Nat → Int32) → (Nat → Int32) → (Nat → Int32) → (Nat → Int32) → (Nat → Int32) → Int32 → Int32 → Int32 → Int32 → (Nat → Int32) → (Nat → Int32) → (Nat → Int32) → (Nat → Int32) → (Nat → Int32) → (Nat → Int32) → (Nat → Int32) → (Nat → Int32) → (Nat → Int32) → (Nat → Int32) → Int32 → Int32 → (Nat → Int32) → (Nat → Int32) → (Nat → Int32) → (Nat → Int32) → (Nat → Int32) → (Nat → Int32) → Int32 → (Nat → Int32) → (Nat → Int32) → Int32 → Int64 → Int32 → Int32 → (Nat → Int32) → (Nat → Int64) → (Nat → Int32) → Int64 → Int64 → (Nat → Int64) → (Nat → Int64) → (Nat → Int32) → (Nat → Int32) → (Nat → Int32) → Int32 → Int32 → Int64 → Int64 → Int32 → Int32 → Int32 → Int64 → (Nat → Int32) → (Nat → Int32) → (Nat → Int32) → (Nat → Int32) → (Nat → Int64) → (Nat → Int32) → (Nat → Int64) → (Nat → Int64) → (Nat → Int32) → (Nat → Int32) → (Nat → Int32) → (Nat → Int32) → (Nat → Int64) → (Nat → Int32) → (Nat → Int32) → (Nat → Int32) → (Nat → Int32) → (Nat → Int32) → (Nat → Int64) → (Nat → Int64) → (Nat → Int32) → Int32 → Option Int32) (c_a1_above : Int64) (c_a1_below : Int64) (c_a1_board_askers : Int32) (c_a1_board_places : Int32) (c_a1_board_age : Int32) (c_a1_board_seats : Nat → Int32) (c_a1_board_wishes : Nat → Int32) (c_a1_board_likes : Nat → Int32) (c_a1_board_told : Nat → Int32) (c_a1_all_slots : Nat → Int32) (c_a1_all_askers : Int32) (c_a1_all_places : Int32) (c_a1_all_seatBits : Int32) (c_a1_all_entries : Int32) (c_a1_all_gains : Nat → Int32) (c_a1_all_solvedGains : Nat → Int32) (c_a1_all_left : Nat → Int32) (c_a1_all_best : Nat → Int32) (c_a1_all_ways : Nat → Int32) (c_a1_all_next : Nat → Int32) (c_a1_all_firstOf : Nat → Int32) (c_a1_all_clipAll : Nat → Int32) (c_a1_all_clipToOne : Nat → Int32) (c_a1_all_clipToTwo : Nat → Int32) (c_a1_steady_askers : Int32) (c_a1_steady_places : Int32) (c_a1_steady_seatBits : Int32) (c_a1_steady_entries : Int32) (c_a1_steady_gains : Nat → Int32) (c_a1_steady_solvedGains : Nat → Int32) (c_a1_steady_left : Nat → Int32) (c_a1_steady_best : Nat → Int32) (c_a1_steady_ways : Nat → Int32) (c_a1_steady_next : Nat → Int32) (c_a1_steady_firstOf : Nat → Int32) (c_a1_steady_clipAll : Nat → Int32) (c_a1_steady_clipToOne : Nat → Int32) (c_a1_steady_clipToTwo : Nat → Int32) (c_a1_aimed_askers : Int32) (c_a1_aimed_places : Int32) (c_a1_aimed_seatBits : Int32) (c_a1_aimed_entries : Int32) (c_a1_aimed_gains : Nat → Int32) (c_a1_aimed_solvedGains : Nat → Int32) (c_a1_aimed_left : Nat → Int32) (c_a1_aimed_best : Nat → Int32) (c_a1_aimed_ways : Nat → Int32) (c_a1_aimed_next : Nat → Int32) (c_a1_aimed_firstOf : Nat → Int32) (c_a1_aimed_clipAll : Nat → Int32) (c_a1_aimed_clipToOne : Nat → Int32) (c_a1_aimed_clipToTwo : Nat → Int32) (c_a1_steadiness_most : Int32) (c_a1_steadiness_tight : Int32) (c_a1_steadiness_firsts : Nat → Int32) (c_a1_trade_gets : Nat → Int32) (c_a1_trade_servedIn : Nat → Int32) (c_a1_trade_holds : Nat → Int32) (c_a1_trade_pointsAt : Nat → Int32) (c_a1_trade_holderOf : Nat → Int32) (c_a1_ring_length : Int32) (c_a1_ring_members : Nat → Int32) (c_a1_ring_wants : Nat → Int32) (c_a1_lots_age : Int32) (c_a1_lots_runs : Int64) (c_a1_lots_wanting : Int32) (c_a1_lots_wanted : Int32) (c_a1_lots_answers : Nat → Int32) (c_a1_lots_memoKeys : Nat → Int64) (c_a1_lots_memos : Nat → Int32) (c_a1_eating_whole : Int64) (c_a1_eating_time : Int64) (c_a1_eating_eaten : Nat → Int64) (c_a1_eating_rest : Nat → Int64) (c_a1_eating_eatsAt : Nat → Int32) (c_a1_eating_eaters : Nat → Int32) (c_a1_row : Nat → Int32) (c_a2_askers : Int32) (c_a2_places : Int32) (c_a2_above : Int64) (c_a2_below : Int64) (c_a2_full : Int32) (c_a2_firsts : Int32) (c_a2_freed : Int32) (c_a2_whole : Int64) (c_a2_seats : Nat → Int32) (c_a2_wish : Nat → Int32) (c_a2_told : Nat → Int32) (c_a2_weight : Nat → Int32) (c_a2_count : Nat → Int64) (c_a2_found : Nat → Int32) (c_a2_cost : Nat → Int64) (c_a2_least : Nat → Int64) (c_a2_prefer : Nat → Int32) (c_a2_next : Nat → Int32) (c_a2_firstWorth : Nat → Int32) (c_a2_secondWorth : Nat → Int32) (c_a2_stand : Nat → Int64) (c_a2_served : Nat → Int32) (c_a2_points : Nat → Int32) (c_a2_can : Nat → Int32) (c_a2_ring : Nat → Int32) (c_a2_ways : Nat → Int32) (c_a2_leftOf : Nat → Int64) (c_a2_ate : Nat → Int64) (c_a2_eats : Nat → Int32) (v3 : Int32) : Option Int32 :=
    (f_X7_standing N c_a1_board_askers c_a1_board_places c_a1_board_likes c_a1_board_seats c_a1_board_wishes c_a1_steadiness_most c_a1_steadiness_tight c_a1_steady_askers c_a1_steady_places c_a1_steady_seatBits c_a1_steady_entries c_a1_all_slots c_a1_steadiness_firsts c_a1_steady_best c_a1_steady_clipAll c_a1_steady_clipToOne c_a1_steady_clipToTwo c_a1_steady_firstOf c_a1_steady_gains c_a1_steady_left c_a1_steady_next c_a1_steady_solvedGains c_a1_steady_ways).bind fun (r1, o2, o3, o4, o5, o6, o7, o8, o9, o10, o11, o12, o13, o14, o15, o16, o17, o18, o19) =>
    (f_X8_standing N c_a2_askers c_a2_places c_a2_wish c_a2_full c_a2_firsts c_a2_freed c_a2_cost c_a2_firstWorth c_a2_found c_a2_least c_a2_seats c_a2_secondWorth c_a2_stand c_a2_weight).bind fun (r21, o22, o23, o24, o25, o26, o27, o28, o29, o30, o31, o32) =>
    (if r1 = r21 then
      k18 c_a1_above c_a1_below c_a1_board_askers c_a1_board_places c_a1_board_age c_a1_board_seats c_a1_board_wishes c_a1_board_likes c_a1_board_told o8 c_a1_all_askers c_a1_all_places c_a1_all_seatBits c_a1_all_entries c_a1_all_gains c_a1_all_solvedGains c_a1_all_left c_a1_all_best c_a1_all_ways c_a1_all_next c_a1_all_firstOf c_a1_all_clipAll c_a1_all_clipToOne c_a1_all_clipToTwo o4 o5 o6 o7 o15 o18 o16 o10 o19 o17 o14 o11 o12 o13 c_a1_aimed_askers c_a1_aimed_places c_a1_aimed_seatBits c_a1_aimed_entries c_a1_aimed_gains c_a1_aimed_solvedGains c_a1_aimed_left c_a1_aimed_best c_a1_aimed_ways c_a1_aimed_next c_a1_aimed_firstOf c_a1_aimed_clipAll c_a1_aimed_clipToOne c_a1_aimed_clipToTwo o2 o3 o9 c_a1_trade_gets c_a1_trade_servedIn c_a1_trade_holds c_a1_trade_pointsAt c_a1_trade_holderOf c_a1_ring_length c_a1_ring_members c_a1_ring_wants c_a1_lots_age c_a1_lots_runs c_a1_lots_wanting c_a1_lots_wanted c_a1_lots_answers c_a1_lots_memoKeys c_a1_lots_memos c_a1_eating_whole c_a1_eating_time c_a1_eating_eaten c_a1_eating_rest c_a1_eating_eatsAt c_a1_eating_eaters c_a1_row c_a2_askers c_a2_places c_a2_above c_a2_below o22 o23 o24 c_a2_whole o29 c_a2_wish c_a2_told o32 c_a2_count o27 o25 o28 c_a2_prefer c_a2_next o26 o30 o31 c_a2_served c_a2_points c_a2_can c_a2_ring c_a2_ways c_a2_leftOf c_a2_ate c_a2_eats (v3 + 4)
    else
      some 0)
def f_L_law_688 (N : Nat) (L : Nat) (c_a0 : Nat → Int32) (k18 : Int64 → Int64 → Int32 → Int32 → Int32 → (Nat → Int32) → (Nat → Int32) → (Nat → Int32) → (Nat → Int32) → (Nat → Int32) → Int32 → Int32 → Int32 → Int32 → (Nat → Int32) → (Nat → Int32) → (Nat → Int32) → (Nat → Int32) → (Nat → Int32) → (Nat → Int32) → (Nat → Int32) → (Nat → Int32) → (Nat → Int32) → (Nat → Int32) → Int32 → Int32 → Int32 → Int32 → (Nat → Int32) → (Nat → Int32) → (Nat → Int32) → (Nat → Int32) → (Nat → Int32) → (Nat → Int32) → (Nat → Int32) → (Nat → Int32) → (Nat → Int32) → (Nat → Int32) → Int32 → Int32 → Int32 → Int32 → (Nat → Int32) → (Nat → Int32) → (Nat → Int32) → (Nat → Int32) → (Nat → Int32) → (Nat → Int32) → (Nat → Int32) → (Nat → Int32) → (Nat → Int32) → (Nat → Int32) → Int32 → Int32 → (Nat → Int32) → (Nat → Int32) → (Nat → Int32) → (Nat → Int32) → (Nat → Int32) → (Nat → Int32) → Int32 → (Nat → Int32) → (Nat → Int32) → Int32 → Int64 → Int32 → Int32 → (Nat → Int32) → (Nat → Int64) → (Nat → Int32) → Int64 → Int64 → (Nat → Int64) → (Nat → Int64) → (Nat → Int32) → (Nat → Int32) → (Nat → Int32) → Int32 → Int32 → Int64 → Int64 → Int32 → Int32 → Int32 → Int64 → (Nat → Int32) → (Nat → Int32) → (Nat → Int32) → (Nat → Int32) → (Nat → Int64) → (Nat → Int32) → (Nat → Int64) → (Nat → Int64) → (Nat → Int32) → (Nat → Int32) → (Nat → Int32) → (Nat → Int32) → (Nat → Int64) → (Nat → Int32) → (Nat → Int32) → (Nat → Int32) → (Nat → Int32) → (Nat → Int32) → (Nat → Int64) → (Nat → Int64) → (Nat → Int32) → Int32 → Option Int32) (c_a1_above : Int64) (c_a1_below : Int64) (c_a1_board_askers : Int32) (c_a1_board_places : Int32) (c_a1_board_age : Int32) (c_a1_board_seats : Nat → Int32) (c_a1_board_wishes : Nat → Int32) (c_a1_board_likes : Nat → Int32) (c_a1_board_told : Nat → Int32) (c_a1_all_slots : Nat → Int32) (c_a1_all_askers : Int32) (c_a1_all_places : Int32) (c_a1_all_seatBits : Int32) (c_a1_all_entries : Int32) (c_a1_all_gains : Nat → Int32) (c_a1_all_solvedGains : Nat → Int32) (c_a1_all_left : Nat → Int32) (c_a1_all_best : Nat → Int32) (c_a1_all_ways : Nat → Int32) (c_a1_all_next : Nat → Int32) (c_a1_all_firstOf : Nat → Int32) (c_a1_all_clipAll : Nat → Int32) (c_a1_all_clipToOne : Nat → Int32) (c_a1_all_clipToTwo : Nat → Int32) (c_a1_steady_askers : Int32) (c_a1_steady_places : Int32) (c_a1_steady_seatBits : Int32) (c_a1_steady_entries : Int32) (c_a1_steady_gains : Nat → Int32) (c_a1_steady_solvedGains : Nat → Int32) (c_a1_steady_left : Nat → Int32) (c_a1_steady_best : Nat → Int32) (c_a1_steady_ways : Nat → Int32) (c_a1_steady_next : Nat → Int32) (c_a1_steady_firstOf : Nat → Int32) (c_a1_steady_clipAll : Nat → Int32) (c_a1_steady_clipToOne : Nat → Int32) (c_a1_steady_clipToTwo : Nat → Int32) (c_a1_aimed_askers : Int32) (c_a1_aimed_places : Int32) (c_a1_aimed_seatBits : Int32) (c_a1_aimed_entries : Int32) (c_a1_aimed_gains : Nat → Int32) (c_a1_aimed_solvedGains : Nat → Int32) (c_a1_aimed_left : Nat → Int32) (c_a1_aimed_best : Nat → Int32) (c_a1_aimed_ways : Nat → Int32) (c_a1_aimed_next : Nat → Int32) (c_a1_aimed_firstOf : Nat → Int32) (c_a1_aimed_clipAll : Nat → Int32) (c_a1_aimed_clipToOne : Nat → Int32) (c_a1_aimed_clipToTwo : Nat → Int32) (c_a1_steadiness_most : Int32) (c_a1_steadiness_tight : Int32) (c_a1_steadiness_firsts : Nat → Int32) (c_a1_trade_gets : Nat → Int32) (c_a1_trade_servedIn : Nat → Int32) (c_a1_trade_holds : Nat → Int32) (c_a1_trade_pointsAt : Nat → Int32) (c_a1_trade_holderOf : Nat → Int32) (c_a1_ring_length : Int32) (c_a1_ring_members : Nat → Int32) (c_a1_ring_wants : Nat → Int32) (c_a1_lots_age : Int32) (c_a1_lots_runs : Int64) (c_a1_lots_wanting : Int32) (c_a1_lots_wanted : Int32) (c_a1_lots_answers : Nat → Int32) (c_a1_lots_memoKeys : Nat → Int64) (c_a1_lots_memos : Nat → Int32) (c_a1_eating_whole : Int64) (c_a1_eating_time : Int64) (c_a1_eating_eaten : Nat → Int64) (c_a1_eating_rest : Nat → Int64) (c_a1_eating_eatsAt : Nat → Int32) (c_a1_eating_eaters : Nat → Int32) (c_a1_row : Nat → Int32) (c_a2_askers : Int32) (c_a2_places : Int32) (c_a2_above : Int64) (c_a2_below : Int64) (c_a2_full : Int32) (c_a2_firsts : Int32) (c_a2_freed : Int32) (c_a2_whole : Int64) (c_a2_seats : Nat → Int32) (c_a2_wish : Nat → Int32) (c_a2_told : Nat → Int32) (c_a2_weight : Nat → Int32) (c_a2_count : Nat → Int64) (c_a2_found : Nat → Int32) (c_a2_cost : Nat → Int64) (c_a2_least : Nat → Int64) (c_a2_prefer : Nat → Int32) (c_a2_next : Nat → Int32) (c_a2_firstWorth : Nat → Int32) (c_a2_secondWorth : Nat → Int32) (c_a2_stand : Nat → Int64) (c_a2_served : Nat → Int32) (c_a2_points : Nat → Int32) (c_a2_can : Nat → Int32) (c_a2_ring : Nat → Int32) (c_a2_ways : Nat → Int32) (c_a2_leftOf : Nat → Int64) (c_a2_ate : Nat → Int64) (c_a2_eats : Nat → Int32) (v3 : Int32) : Option Int32 :=
    (rdI L c_a0 (v3 + 1)).bind fun t1 =>
    (f_X7_better N c_a1_board_askers c_a1_board_places c_a1_board_seats c_a1_board_told c_a1_board_wishes c_a1_aimed_askers c_a1_aimed_places c_a1_aimed_seatBits c_a1_aimed_entries c_a1_aimed_best c_a1_aimed_clipAll c_a1_aimed_clipToOne c_a1_aimed_clipToTwo c_a1_aimed_firstOf c_a1_aimed_gains c_a1_aimed_left c_a1_aimed_next c_a1_aimed_solvedGains c_a1_aimed_ways c_a1_all_slots t1).bind fun (r2, o3, o4, o5, o6, o7, o8, o9, o10, o11, o12, o13, o14, o15, o16, o17) =>
    (rdI L c_a0 (v3 + 1)).bind fun t19 =>
    (f_X8_better N c_a2_askers c_a2_places c_a2_seats c_a2_told c_a2_wish c_a2_full c_a2_cost c_a2_found c_a2_least c_a2_weight t19).bind fun (r20, o21, o22, o23, o24, o25) =>
    (if r2 = r20 then
      k18 c_a1_above c_a1_below c_a1_board_askers c_a1_board_places c_a1_board_age c_a1_board_seats c_a1_board_wishes c_a1_board_likes c_a1_board_told o17 c_a1_all_askers c_a1_all_places c_a1_all_seatBits c_a1_all_entries c_a1_all_gains c_a1_all_solvedGains c_a1_all_left c_a1_all_best c_a1_all_ways c_a1_all_next c_a1_all_firstOf c_a1_all_clipAll c_a1_all_clipToOne c_a1_all_clipToTwo c_a1_steady_askers c_a1_steady_places c_a1_steady_seatBits c_a1_steady_entries c_a1_steady_gains c_a1_steady_solvedGains c_a1_steady_left c_a1_steady_best c_a1_steady_ways c_a1_steady_next c_a1_steady_firstOf c_a1_steady_clipAll c_a1_steady_clipToOne c_a1_steady_clipToTwo o3 o4 o5 o6 o12 o15 o13 o7 o16 o14 o11 o8 o9 o10 c_a1_steadiness_most c_a1_steadiness_tight c_a1_steadiness_firsts c_a1_trade_gets c_a1_trade_servedIn c_a1_trade_holds c_a1_trade_pointsAt c_a1_trade_holderOf c_a1_ring_length c_a1_ring_members c_a1_ring_wants c_a1_lots_age c_a1_lots_runs c_a1_lots_wanting c_a1_lots_wanted c_a1_lots_answers c_a1_lots_memoKeys c_a1_lots_memos c_a1_eating_whole c_a1_eating_time c_a1_eating_eaten c_a1_eating_rest c_a1_eating_eatsAt c_a1_eating_eaters c_a1_row c_a2_askers c_a2_places c_a2_above c_a2_below o21 c_a2_firsts c_a2_freed c_a2_whole c_a2_seats c_a2_wish c_a2_told o25 c_a2_count o23 o22 o24 c_a2_prefer c_a2_next c_a2_firstWorth c_a2_secondWorth c_a2_stand c_a2_served c_a2_points c_a2_can c_a2_ring c_a2_ways c_a2_leftOf c_a2_ate c_a2_eats (v3 + 4)
    else
      some 0)
def f_L_law_664 (N : Nat) (L : Nat) (c_a0 : Nat → Int32) (k18 : Int64 → Int64 → Int32 → Int32 → Int32 → (Nat → Int32) → (Nat → Int32) → (Nat → Int32) → (Nat → Int32) → (Nat → Int32) → Int32 → Int32 → Int32 → Int32 → (Nat → Int32) → (Nat → Int32) → (Nat → Int32) → (Nat → Int32) → (Nat → Int32) → (Nat → Int32) → (Nat → Int32) → (Nat → Int32) → (Nat → Int32) → (Nat → Int32) → Int32 → Int32 → Int32 → Int32 → (Nat → Int32) → (Nat → Int32) → (Nat → Int32) → (Nat → Int32) → (Nat → Int32) → (Nat → Int32) → (Nat → Int32) → (Nat → Int32) → (Nat → Int32) → (Nat → Int32) → Int32 → Int32 → Int32 → Int32 → (Nat → Int32) → (Nat → Int32) → (Nat → Int32) → (Nat → Int32) → (Nat → Int32) → (Nat → Int32) → (Nat → Int32) → (Nat → Int32) → (Nat → Int32) → (Nat → Int32) → Int32 → Int32 → (Nat → Int32) → (Nat → Int32) → (Nat → Int32) → (Nat → Int32) → (Nat → Int32) → (Nat → Int32) → Int32 → (Nat → Int32) → (Nat → Int32) → Int32 → Int64 → Int32 → Int32 → (Nat → Int32) → (Nat → Int64) → (Nat → Int32) → Int64 → Int64 → (Nat → Int64) → (Nat → Int64) → (Nat → Int32) → (Nat → Int32) → (Nat → Int32) → Int32 → Int32 → Int64 → Int64 → Int32 → Int32 → Int32 → Int64 → (Nat → Int32) → (Nat → Int32) → (Nat → Int32) → (Nat → Int32) → (Nat → Int64) → (Nat → Int32) → (Nat → Int64) → (Nat → Int64) → (Nat → Int32) → (Nat → Int32) → (Nat → Int32) → (Nat → Int32) → (Nat → Int64) → (Nat → Int32) → (Nat → Int32) → (Nat → Int32) → (Nat → Int32) → (Nat → Int32) → (Nat → Int64) → (Nat → Int64) → (Nat → Int32) → Int32 → Option Int32) (c_a1_above : Int64) (c_a1_below : Int64) (c_a1_board_askers : Int32) (c_a1_board_places : Int32) (c_a1_board_age : Int32) (c_a1_board_seats : Nat → Int32) (c_a1_board_wishes : Nat → Int32) (c_a1_board_likes : Nat → Int32) (c_a1_board_told : Nat → Int32) (c_a1_all_slots : Nat → Int32) (c_a1_all_askers : Int32) (c_a1_all_places : Int32) (c_a1_all_seatBits : Int32) (c_a1_all_entries : Int32) (c_a1_all_gains : Nat → Int32) (c_a1_all_solvedGains : Nat → Int32) (c_a1_all_left : Nat → Int32) (c_a1_all_best : Nat → Int32) (c_a1_all_ways : Nat → Int32) (c_a1_all_next : Nat → Int32) (c_a1_all_firstOf : Nat → Int32) (c_a1_all_clipAll : Nat → Int32) (c_a1_all_clipToOne : Nat → Int32) (c_a1_all_clipToTwo : Nat → Int32) (c_a1_steady_askers : Int32) (c_a1_steady_places : Int32) (c_a1_steady_seatBits : Int32) (c_a1_steady_entries : Int32) (c_a1_steady_gains : Nat → Int32) (c_a1_steady_solvedGains : Nat → Int32) (c_a1_steady_left : Nat → Int32) (c_a1_steady_best : Nat → Int32) (c_a1_steady_ways : Nat → Int32) (c_a1_steady_next : Nat → Int32) (c_a1_steady_firstOf : Nat → Int32) (c_a1_steady_clipAll : Nat → Int32) (c_a1_steady_clipToOne : Nat → Int32) (c_a1_steady_clipToTwo : Nat → Int32) (c_a1_aimed_askers : Int32) (c_a1_aimed_places : Int32) (c_a1_aimed_seatBits : Int32) (c_a1_aimed_entries : Int32) (c_a1_aimed_gains : Nat → Int32) (c_a1_aimed_solvedGains : Nat → Int32) (c_a1_aimed_left : Nat → Int32) (c_a1_aimed_best : Nat → Int32) (c_a1_aimed_ways : Nat → Int32) (c_a1_aimed_next : Nat → Int32) (c_a1_aimed_firstOf : Nat → Int32) (c_a1_aimed_clipAll : Nat → Int32) (c_a1_aimed_clipToOne : Nat → Int32) (c_a1_aimed_clipToTwo : Nat → Int32) (c_a1_steadiness_most : Int32) (c_a1_steadiness_tight : Int32) (c_a1_steadiness_firsts : Nat → Int32) (c_a1_trade_gets : Nat → Int32) (c_a1_trade_servedIn : Nat → Int32) (c_a1_trade_holds : Nat → Int32) (c_a1_trade_pointsAt : Nat → Int32) (c_a1_trade_holderOf : Nat → Int32) (c_a1_ring_length : Int32) (c_a1_ring_members : Nat → Int32) (c_a1_ring_wants : Nat → Int32) (c_a1_lots_age : Int32) (c_a1_lots_runs : Int64) (c_a1_lots_wanting : Int32) (c_a1_lots_wanted : Int32) (c_a1_lots_answers : Nat → Int32) (c_a1_lots_memoKeys : Nat → Int64) (c_a1_lots_memos : Nat → Int32) (c_a1_eating_whole : Int64) (c_a1_eating_time : Int64) (c_a1_eating_eaten : Nat → Int64) (c_a1_eating_rest : Nat → Int64) (c_a1_eating_eatsAt : Nat → Int32) (c_a1_eating_eaters : Nat → Int32) (c_a1_row : Nat → Int32) (c_a2_askers : Int32) (c_a2_places : Int32) (c_a2_above : Int64) (c_a2_below : Int64) (c_a2_full : Int32) (c_a2_firsts : Int32) (c_a2_freed : Int32) (c_a2_whole : Int64) (c_a2_seats : Nat → Int32) (c_a2_wish : Nat → Int32) (c_a2_told : Nat → Int32) (c_a2_weight : Nat → Int32) (c_a2_count : Nat → Int64) (c_a2_found : Nat → Int32) (c_a2_cost : Nat → Int64) (c_a2_least : Nat → Int64) (c_a2_prefer : Nat → Int32) (c_a2_next : Nat → Int32) (c_a2_firstWorth : Nat → Int32) (c_a2_secondWorth : Nat → Int32) (c_a2_stand : Nat → Int64) (c_a2_served : Nat → Int32) (c_a2_points : Nat → Int32) (c_a2_can : Nat → Int32) (c_a2_ring : Nat → Int32) (c_a2_ways : Nat → Int32) (c_a2_leftOf : Nat → Int64) (c_a2_ate : Nat → Int64) (c_a2_eats : Nat → Int32) (v3 : Int32) : Option Int32 :=
    (rdI L c_a0 (v3 + 1)).bind fun t1 =>
    (f_X7_part N c_a1_above c_a1_below t1).bind fun r2 =>
    (rdI L c_a0 (v3 + 1)).bind fun t4 =>
    (f_X8_part N c_a2_above c_a2_below t4).bind fun r5 =>
    (if r2 = r5 then
      k18 c_a1_above c_a1_below c_a1_board_askers c_a1_board_places c_a1_board_age c_a1_board_seats c_a1_board_wishes c_a1_board_likes c_a1_board_told c_a1_all_slots c_a1_all_askers c_a1_all_places c_a1_all_seatBits c_a1_all_entries c_a1_all_gains c_a1_all_solvedGains c_a1_all_left c_a1_all_best c_a1_all_ways c_a1_all_next c_a1_all_firstOf c_a1_all_clipAll c_a1_all_clipToOne c_a1_all_clipToTwo c_a1_steady_askers c_a1_steady_places c_a1_steady_seatBits c_a1_steady_entries c_a1_steady_gains c_a1_steady_solvedGains c_a1_steady_left c_a1_steady_best c_a1_steady_ways c_a1_steady_next c_a1_steady_firstOf c_a1_steady_clipAll c_a1_steady_clipToOne c_a1_steady_clipToTwo c_a1_aimed_askers c_a1_aimed_places c_a1_aimed_seatBits c_a1_aimed_entries c_a1_aimed_gains c_a1_aimed_solvedGains c_a1_aimed_left c_a1_aimed_best c_a1_aimed_ways c_a1_aimed_next c_a1_aimed_firstOf c_a1_aimed_clipAll c_a1_aimed_clipToOne c_a1_aimed_clipToTwo c_a1_steadiness_most c_a1_steadiness_tight c_a1_steadiness_firsts c_a1_trade_gets c_a1_trade_servedIn c_a1_trade_holds c_a1_trade_pointsAt c_a1_trade_holderOf c_a1_ring_length c_a1_ring_members c_a1_ring_wants c_a1_lots_age c_a1_lots_runs c_a1_lots_wanting c_a1_lots_wanted c_a1_lots_answers c_a1_lots_memoKeys c_a1_lots_memos c_a1_eating_whole c_a1_eating_time c_a1_eating_eaten c_a1_eating_rest c_a1_eating_eatsAt c_a1_eating_eaters c_a1_row c_a2_askers c_a2_places c_a2_above c_a2_below c_a2_full c_a2_firsts c_a2_freed c_a2_whole c_a2_seats c_a2_wish c_a2_told c_a2_weight c_a2_count c_a2_found c_a2_cost c_a2_least c_a2_prefer c_a2_next c_a2_firstWorth c_a2_secondWorth c_a2_stand c_a2_served c_a2_points c_a2_can c_a2_ring c_a2_ways c_a2_leftOf c_a2_ate c_a2_eats (v3 + 4)
    else
      some 0)
def f_L_law_641 (N : Nat) (L : Nat) (c_a0 : Nat → Int32) (k18 : Int64 → Int64 → Int32 → Int32 → Int32 → (Nat → Int32) → (Nat → Int32) → (Nat → Int32) → (Nat → Int32) → (Nat → Int32) → Int32 → Int32 → Int32 → Int32 → (Nat → Int32) → (Nat → Int32) → (Nat → Int32) → (Nat → Int32) → (Nat → Int32) → (Nat → Int32) → (Nat → Int32) → (Nat → Int32) → (Nat → Int32) → (Nat → Int32) → Int32 → Int32 → Int32 → Int32 → (Nat → Int32) → (Nat → Int32) → (Nat → Int32) → (Nat → Int32) → (Nat → Int32) → (Nat → Int32) → (Nat → Int32) → (Nat → Int32) → (Nat → Int32) → (Nat → Int32) → Int32 → Int32 → Int32 → Int32 → (Nat → Int32) → (Nat → Int32) → (Nat → Int32) → (Nat → Int32) → (Nat → Int32) → (Nat → Int32) → (Nat → Int32) → (Nat → Int32) → (Nat → Int32) → (Nat → Int32) → Int32 → Int32 → (Nat → Int32) → (Nat → Int32) → (Nat → Int32) → (Nat → Int32) → (Nat → Int32) → (Nat → Int32) → Int32 → (Nat → Int32) → (Nat → Int32) → Int32 → Int64 → Int32 → Int32 → (Nat → Int32) → (Nat → Int64) → (Nat → Int32) → Int64 → Int64 → (Nat → Int64) → (Nat → Int64) → (Nat → Int32) → (Nat → Int32) → (Nat → Int32) → Int32 → Int32 → Int64 → Int64 → Int32 → Int32 → Int32 → Int64 → (Nat → Int32) → (Nat → Int32) → (Nat → Int32) → (Nat → Int32) → (Nat → Int64) → (Nat → Int32) → (Nat → Int64) → (Nat → Int64) → (Nat → Int32) → (Nat → Int32) → (Nat → Int32) → (Nat → Int32) → (Nat → Int64) → (Nat → Int32) → (Nat → Int32) → (Nat → Int32) → (Nat → Int32) → (Nat → Int32) → (Nat → Int64) → (Nat → Int64) → (Nat → Int32) → Int32 → Option Int32) (c_a1_above : Int64) (c_a1_below : Int64) (c_a1_board_askers : Int32) (c_a1_board_places : Int32) (c_a1_board_age : Int32) (c_a1_board_seats : Nat → Int32) (c_a1_board_wishes : Nat → Int32) (c_a1_board_likes : Nat → Int32) (c_a1_board_told : Nat → Int32) (c_a1_all_slots : Nat → Int32) (c_a1_all_askers : Int32) (c_a1_all_places : Int32) (c_a1_all_seatBits : Int32) (c_a1_all_entries : Int32) (c_a1_all_gains : Nat → Int32) (c_a1_all_solvedGains : Nat → Int32) (c_a1_all_left : Nat → Int32) (c_a1_all_best : Nat → Int32) (c_a1_all_ways : Nat → Int32) (c_a1_all_next : Nat → Int32) (c_a1_all_firstOf : Nat → Int32) (c_a1_all_clipAll : Nat → Int32) (c_a1_all_clipToOne : Nat → Int32) (c_a1_all_clipToTwo : Nat → Int32) (c_a1_steady_askers : Int32) (c_a1_steady_places : Int32) (c_a1_steady_seatBits : Int32) (c_a1_steady_entries : Int32) (c_a1_steady_gains : Nat → Int32) (c_a1_steady_solvedGains : Nat → Int32) (c_a1_steady_left : Nat → Int32) (c_a1_steady_best : Nat → Int32) (c_a1_steady_ways : Nat → Int32) (c_a1_steady_next : Nat → Int32) (c_a1_steady_firstOf : Nat → Int32) (c_a1_steady_clipAll : Nat → Int32) (c_a1_steady_clipToOne : Nat → Int32) (c_a1_steady_clipToTwo : Nat → Int32) (c_a1_aimed_askers : Int32) (c_a1_aimed_places : Int32) (c_a1_aimed_seatBits : Int32) (c_a1_aimed_entries : Int32) (c_a1_aimed_gains : Nat → Int32) (c_a1_aimed_solvedGains : Nat → Int32) (c_a1_aimed_left : Nat → Int32) (c_a1_aimed_best : Nat → Int32) (c_a1_aimed_ways : Nat → Int32) (c_a1_aimed_next : Nat → Int32) (c_a1_aimed_firstOf : Nat → Int32) (c_a1_aimed_clipAll : Nat → Int32) (c_a1_aimed_clipToOne : Nat → Int32) (c_a1_aimed_clipToTwo : Nat → Int32) (c_a1_steadiness_most : Int32) (c_a1_steadiness_tight : Int32) (c_a1_steadiness_firsts : Nat → Int32) (c_a1_trade_gets : Nat → Int32) (c_a1_trade_servedIn : Nat → Int32) (c_a1_trade_holds : Nat → Int32) (c_a1_trade_pointsAt : Nat → Int32) (c_a1_trade_holderOf : Nat → Int32) (c_a1_ring_length : Int32) (c_a1_ring_members : Nat → Int32) (c_a1_ring_wants : Nat → Int32) (c_a1_lots_age : Int32) (c_a1_lots_runs : Int64) (c_a1_lots_wanting : Int32) (c_a1_lots_wanted : Int32) (c_a1_lots_answers : Nat → Int32) (c_a1_lots_memoKeys : Nat → Int64) (c_a1_lots_memos : Nat → Int32) (c_a1_eating_whole : Int64) (c_a1_eating_time : Int64) (c_a1_eating_eaten : Nat → Int64) (c_a1_eating_rest : Nat → Int64) (c_a1_eating_eatsAt : Nat → Int32) (c_a1_eating_eaters : Nat → Int32) (c_a1_row : Nat → Int32) (c_a2_askers : Int32) (c_a2_places : Int32) (c_a2_above : Int64) (c_a2_below : Int64) (c_a2_full : Int32) (c_a2_firsts : Int32) (c_a2_freed : Int32) (c_a2_whole : Int64) (c_a2_seats : Nat → Int32) (c_a2_wish : Nat → Int32) (c_a2_told : Nat → Int32) (c_a2_weight : Nat → Int32) (c_a2_count : Nat → Int64) (c_a2_found : Nat → Int32) (c_a2_cost : Nat → Int64) (c_a2_least : Nat → Int64) (c_a2_prefer : Nat → Int32) (c_a2_next : Nat → Int32) (c_a2_firstWorth : Nat → Int32) (c_a2_secondWorth : Nat → Int32) (c_a2_stand : Nat → Int64) (c_a2_served : Nat → Int32) (c_a2_points : Nat → Int32) (c_a2_can : Nat → Int32) (c_a2_ring : Nat → Int32) (c_a2_ways : Nat → Int32) (c_a2_leftOf : Nat → Int64) (c_a2_ate : Nat → Int64) (c_a2_eats : Nat → Int32) (v3 : Int32) : Option Int32 :=
    (rdI L c_a0 (v3 + 1)).bind fun t1 =>
    (f_X7_factor N c_a1_board_askers c_a1_board_places c_a1_board_likes c_a1_board_seats c_a1_board_told c_a1_board_wishes c_a1_above c_a1_below c_a1_aimed_askers c_a1_aimed_places c_a1_aimed_seatBits c_a1_aimed_entries c_a1_row c_a1_aimed_best c_a1_aimed_clipAll c_a1_aimed_clipToOne c_a1_aimed_clipToTwo c_a1_aimed_firstOf c_a1_aimed_gains c_a1_aimed_left c_a1_aimed_next c_a1_aimed_solvedGains c_a1_aimed_ways c_a1_all_slots t1).bind fun (r2, o3, o4, o5, o6, o7, o8, o9, o10, o11, o12, o13, o14, o15, o16, o17, o18, o19, o20) =>
    (rdI L c_a0 (v3 + 1)).bind fun t22 =>
    (f_X8_factor N c_a2_askers c_a2_places c_a2_seats c_a2_told c_a2_wish c_a2_above c_a2_below c_a2_full c_a2_next c_a2_prefer c_a2_weight t22).bind fun (r23, o24, o25, o26, o27, o28, o29) =>
    (if r2 = r23 then
      k18 o3 o4 c_a1_board_askers c_a1_board_places c_a1_board_age c_a1_board_seats c_a1_board_wishes c_a1_board_likes c_a1_board_told o20 c_a1_all_askers c_a1_all_places c_a1_all_seatBits c_a1_all_entries c_a1_all_gains c_a1_all_solvedGains c_a1_all_left c_a1_all_best c_a1_all_ways c_a1_all_next c_a1_all_firstOf c_a1_all_clipAll c_a1_all_clipToOne c_a1_all_clipToTwo c_a1_steady_askers c_a1_steady_places c_a1_steady_seatBits c_a1_steady_entries c_a1_steady_gains c_a1_steady_solvedGains c_a1_steady_left c_a1_steady_best c_a1_steady_ways c_a1_steady_next c_a1_steady_firstOf c_a1_steady_clipAll c_a1_steady_clipToOne c_a1_steady_clipToTwo o5 o6 o7 o8 o15 o18 o16 o10 o19 o17 o14 o11 o12 o13 c_a1_steadiness_most c_a1_steadiness_tight c_a1_steadiness_firsts c_a1_trade_gets c_a1_trade_servedIn c_a1_trade_holds c_a1_trade_pointsAt c_a1_trade_holderOf c_a1_ring_length c_a1_ring_members c_a1_ring_wants c_a1_lots_age c_a1_lots_runs c_a1_lots_wanting c_a1_lots_wanted c_a1_lots_answers c_a1_lots_memoKeys c_a1_lots_memos c_a1_eating_whole c_a1_eating_time c_a1_eating_eaten c_a1_eating_rest c_a1_eating_eatsAt c_a1_eating_eaters o9 c_a2_askers c_a2_places o24 o25 o26 c_a2_firsts c_a2_freed c_a2_whole c_a2_seats c_a2_wish c_a2_told o29 c_a2_count c_a2_found c_a2_cost c_a2_least o28 o27 c_a2_firstWorth c_a2_secondWorth c_a2_stand c_a2_served c_a2_points c_a2_can c_a2_ring c_a2_ways c_a2_leftOf c_a2_ate c_a2_eats (v3 + 4)
    else
      some 0)
def f_L_law_608 (N : Nat) (L : Nat) (c_a0 : Nat → Int32) (k18 : Int64 → Int64 → Int32 → Int32 → Int32 → (Nat → Int32) → (Nat → Int32) → (Nat → Int32) → (Nat → Int32) → (Nat → Int32) → Int32 → Int32 → Int32 → Int32 → (Nat → Int32) → (Nat → Int32) → (Nat → Int32) → (Nat → Int32) → (Nat → Int32) → (Nat → Int32) → (Nat → Int32) → (Nat → Int32) → (Nat → Int32) → (Nat → Int32) → Int32 → Int32 → Int32 → Int32 → (Nat → Int32) → (Nat → Int32) → (Nat → Int32) → (Nat → Int32) → (Nat → Int32) → (Nat → Int32) → (Nat → Int32) → (Nat → Int32) → (Nat → Int32) → (Nat → Int32) → Int32 → Int32 → Int32 → Int32 → (Nat → Int32) → (Nat → Int32) → (Nat → Int32) → (Nat → Int32) → (Nat → Int32) → (Nat → Int32) → (Nat → Int32) → (Nat → Int32) → (Nat → Int32) → (Nat → Int32) → Int32 → Int32 → (Nat → Int32) → (Nat → Int32) → (Nat → Int32) → (Nat → Int32) → (Nat → Int32) → (Nat → Int32) → Int32 → (Nat → Int32) → (Nat → Int32) → Int32 → Int64 → Int32 → Int32 → (Nat → Int32) → (Nat → Int64) → (Nat → Int32) → Int64 → Int64 → (Nat → Int64) → (Nat → Int64) → (Nat → Int32) → (Nat → Int32) → (Nat → Int32) → Int32 → Int32 → Int64 → Int64 → Int32 → Int32 → Int32 → Int64 → (Nat → Int32) → (Nat → Int32) → (Nat → Int32) → (Nat → Int32) → (Nat → Int64) → (Nat → Int32) → (Nat → Int64) → (Nat → Int64) → (Nat → Int32) → (Nat → Int32) → (Nat → Int32) → (Nat → Int32) → (Nat → Int64) → (Nat → Int32) → (Nat → Int32) → (Nat → Int32) → (Nat → Int32) → (Nat → Int32) → (Nat → Int64) → (Nat → Int64) → (Nat → Int32) → Int32 → Option Int32) (c_a1_above : Int64) (c_a1_below : Int64) (c_a1_board_askers : Int32) (c_a1_board_places : Int32) (c_a1_board_age : Int32) (c_a1_board_seats : Nat → Int32) (c_a1_board_wishes : Nat → Int32) (c_a1_board_likes : Nat → Int32) (c_a1_board_told : Nat → Int32) (c_a1_all_slots : Nat → Int32) (c_a1_all_askers : Int32) (c_a1_all_places : Int32) (c_a1_all_seatBits : Int32) (c_a1_all_entries : Int32) (c_a1_all_gains : Nat → Int32) (c_a1_all_solvedGains : Nat → Int32) (c_a1_all_left : Nat → Int32) (c_a1_all_best : Nat → Int32) (c_a1_all_ways : Nat → Int32) (c_a1_all_next : Nat → Int32) (c_a1_all_firstOf : Nat → Int32) (c_a1_all_clipAll : Nat → Int32) (c_a1_all_clipToOne : Nat → Int32) (c_a1_all_clipToTwo : Nat → Int32) (c_a1_steady_askers : Int32) (c_a1_steady_places : Int32) (c_a1_steady_seatBits : Int32) (c_a1_steady_entries : Int32) (c_a1_steady_gains : Nat → Int32) (c_a1_steady_solvedGains : Nat → Int32) (c_a1_steady_left : Nat → Int32) (c_a1_steady_best : Nat → Int32) (c_a1_steady_ways : Nat → Int32) (c_a1_steady_next : Nat → Int32) (c_a1_steady_firstOf : Nat → Int32) (c_a1_steady_clipAll : Nat → Int32) (c_a1_steady_clipToOne : Nat → Int32) (c_a1_steady_clipToTwo : Nat → Int32) (c_a1_aimed_askers : Int32) (c_a1_aimed_places : Int32) (c_a1_aimed_seatBits : Int32) (c_a1_aimed_entries : Int32) (c_a1_aimed_gains : Nat → Int32) (c_a1_aimed_solvedGains : Nat → Int32) (c_a1_aimed_left : Nat → Int32) (c_a1_aimed_best : Nat → Int32) (c_a1_aimed_ways : Nat → Int32) (c_a1_aimed_next : Nat → Int32) (c_a1_aimed_firstOf : Nat → Int32) (c_a1_aimed_clipAll : Nat → Int32) (c_a1_aimed_clipToOne : Nat → Int32) (c_a1_aimed_clipToTwo : Nat → Int32) (c_a1_steadiness_most : Int32) (c_a1_steadiness_tight : Int32) (c_a1_steadiness_firsts : Nat → Int32) (c_a1_trade_gets : Nat → Int32) (c_a1_trade_servedIn : Nat → Int32) (c_a1_trade_holds : Nat → Int32) (c_a1_trade_pointsAt : Nat → Int32) (c_a1_trade_holderOf : Nat → Int32) (c_a1_ring_length : Int32) (c_a1_ring_members : Nat → Int32) (c_a1_ring_wants : Nat → Int32) (c_a1_lots_age : Int32) (c_a1_lots_runs : Int64) (c_a1_lots_wanting : Int32) (c_a1_lots_wanted : Int32) (c_a1_lots_answers : Nat → Int32) (c_a1_lots_memoKeys : Nat → Int64) (c_a1_lots_memos : Nat → Int32) (c_a1_eating_whole : Int64) (c_a1_eating_time : Int64) (c_a1_eating_eaten : Nat → Int64) (c_a1_eating_rest : Nat → Int64) (c_a1_eating_eatsAt : Nat → Int32) (c_a1_eating_eaters : Nat → Int32) (c_a1_row : Nat → Int32) (c_a2_askers : Int32) (c_a2_places : Int32) (c_a2_above : Int64) (c_a2_below : Int64) (c_a2_full : Int32) (c_a2_firsts : Int32) (c_a2_freed : Int32) (c_a2_whole : Int64) (c_a2_seats : Nat → Int32) (c_a2_wish : Nat → Int32) (c_a2_told : Nat → Int32) (c_a2_weight : Nat → Int32) (c_a2_count : Nat → Int64) (c_a2_found : Nat → Int32) (c_a2_cost : Nat → Int64) (c_a2_least : Nat → Int64) (c_a2_prefer : Nat → Int32) (c_a2_next : Nat → Int32) (c_a2_firstWorth : Nat → Int32) (c_a2_secondWorth : Nat → Int32) (c_a2_stand : Nat → Int64) (c_a2_served : Nat → Int32) (c_a2_points : Nat → Int32) (c_a2_can : Nat → Int32) (c_a2_ring : Nat → Int32) (c_a2_ways : Nat → Int32) (c_a2_leftOf : Nat → Int64) (c_a2_ate : Nat → Int64) (c_a2_eats : Nat → Int32) (v3 : Int32) : Option Int32 :=
    (rdI L c_a0 (v3 + 1)).bind fun t1 =>
    (rdI L c_a0 (v3 + 2)).bind fun t2 =>
    (f_X7_beater N c_a1_board_askers c_a1_board_places c_a1_board_seats c_a1_board_told c_a1_board_wishes c_a1_aimed_askers c_a1_aimed_places c_a1_aimed_seatBits c_a1_aimed_entries c_a1_row c_a1_aimed_best c_a1_aimed_clipAll c_a1_aimed_clipToOne c_a1_aimed_clipToTwo c_a1_aimed_firstOf c_a1_aimed_gains c_a1_aimed_left c_a1_aimed_next c_a1_aimed_solvedGains c_a1_aimed_ways c_a1_all_slots t1 t2).bind fun (r3, o4, o5, o6, o7, o8, o9, o10, o11, o12, o13, o14, o15, o16, o17, o18, o19) =>
    (rdI L c_a0 (v3 + 1)).bind fun t21 =>
    (rdI L c_a0 (v3 + 2)).bind fun t22 =>
    (f_X8_beater N c_a2_askers c_a2_places c_a2_seats c_a2_told c_a2_wish c_a2_full c_a2_cost c_a2_found c_a2_least c_a2_weight t21 t22).bind fun (r23, o24, o25, o26, o27, o28) =>
    (if r3 = r23 then
      k18 c_a1_above c_a1_below c_a1_board_askers c_a1_board_places c_a1_board_age c_a1_board_seats c_a1_board_wishes c_a1_board_likes c_a1_board_told o19 c_a1_all_askers c_a1_all_places c_a1_all_seatBits c_a1_all_entries c_a1_all_gains c_a1_all_solvedGains c_a1_all_left c_a1_all_best c_a1_all_ways c_a1_all_next c_a1_all_firstOf c_a1_all_clipAll c_a1_all_clipToOne c_a1_all_clipToTwo c_a1_steady_askers c_a1_steady_places c_a1_steady_seatBits c_a1_steady_entries c_a1_steady_gains c_a1_steady_solvedGains c_a1_steady_left c_a1_steady_best c_a1_steady_ways c_a1_steady_next c_a1_steady_firstOf c_a1_steady_clipAll c_a1_steady_clipToOne c_a1_steady_clipToTwo o4 o5 o6 o7 o14 o17 o15 o9 o18 o16 o13 o10 o11 o12 c_a1_steadiness_most c_a1_steadiness_tight c_a1_steadiness_firsts c_a1_trade_gets c_a1_trade_servedIn c_a1_trade_holds c_a1_trade_pointsAt c_a1_trade_holderOf c_a1_ring_length c_a1_ring_members c_a1_ring_wants c_a1_lots_age c_a1_lots_runs c_a1_lots_wanting c_a1_lots_wanted c_a1_lots_answers c_a1_lots_memoKeys c_a1_lots_memos c_a1_eating_whole c_a1_eating_time c_a1_eating_eaten c_a1_eating_rest c_a1_eating_eatsAt c_a1_eating_eaters o8 c_a2_askers c_a2_places c_a2_above c_a2_below o24 c_a2_firsts c_a2_freed c_a2_whole c_a2_seats c_a2_wish c_a2_told o28 c_a2_count o26 o25 o27 c_a2_prefer c_a2_next c_a2_firstWorth c_a2_secondWorth c_a2_stand c_a2_served c_a2_points c_a2_can c_a2_ring c_a2_ways c_a2_leftOf c_a2_ate c_a2_eats (v3 + 4)
    else
      some 0)
def f_L_law_585 (N : Nat) (L : Nat) (c_a0 : Nat → Int32) (k18 : Int64 → Int64 → Int32 → Int32 → Int32 → (Nat → Int32) → (Nat → Int32) → (Nat → Int32) → (Nat → Int32) → (Nat → Int32) → Int32 → Int32 → Int32 → Int32 → (Nat → Int32) → (Nat → Int32) → (Nat → Int32) → (Nat → Int32) → (Nat → Int32) → (Nat → Int32) → (Nat → Int32) → (Nat → Int32) → (Nat → Int32) → (Nat → Int32) → Int32 → Int32 → Int32 → Int32 → (Nat → Int32) → (Nat → Int32) → (Nat → Int32) → (Nat → Int32) → (Nat → Int32) → (Nat → Int32) → (Nat → Int32) → (Nat → Int32) → (Nat → Int32) → (Nat → Int32) → Int32 → Int32 → Int32 → Int32 → (Nat → Int32) → (Nat → Int32) → (Nat → Int32) → (Nat → Int32) → (Nat → Int32) → (Nat → Int32) → (Nat → Int32) → (Nat → Int32) → (Nat → Int32) → (Nat → Int32) → Int32 → Int32 → (Nat → Int32) → (Nat → Int32) → (Nat → Int32) → (Nat → Int32) → (Nat → Int32) → (Nat → Int32) → Int32 → (Nat → Int32) → (Nat → Int32) → Int32 → Int64 → Int32 → Int32 → (Nat → Int32) → (Nat → Int64) → (Nat → Int32) → Int64 → Int64 → (Nat → Int64) → (Nat → Int64) → (Nat → Int32) → (Nat → Int32) → (Nat → Int32) → Int32 → Int32 → Int64 → Int64 → Int32 → Int32 → Int32 → Int64 → (Nat → Int32) → (Nat → Int32) → (Nat → Int32) → (Nat → Int32) → (Nat → Int64) → (Nat → Int32) → (Nat → Int64) → (Nat → Int64) → (Nat → Int32) → (Nat → Int32) → (Nat → Int32) → (Nat → Int32) → (Nat → Int64) → (Nat → Int32) → (Nat → Int32) → (Nat → Int32) → (Nat → Int32) → (Nat → Int32) → (Nat → Int64) → (Nat → Int64) → (Nat → Int32) → Int32 → Option Int32) (c_a1_above : Int64) (c_a1_below : Int64) (c_a1_board_askers : Int32) (c_a1_board_places : Int32) (c_a1_board_age : Int32) (c_a1_board_seats : Nat → Int32) (c_a1_board_wishes : Nat → Int32) (c_a1_board_likes : Nat → Int32) (c_a1_board_told : Nat → Int32) (c_a1_all_slots : Nat → Int32) (c_a1_all_askers : Int32) (c_a1_all_places : Int32) (c_a1_all_seatBits : Int32) (c_a1_all_entries : Int32) (c_a1_all_gains : Nat → Int32) (c_a1_all_solvedGains : Nat → Int32) (c_a1_all_left : Nat → Int32) (c_a1_all_best : Nat → Int32) (c_a1_all_ways : Nat → Int32) (c_a1_all_next : Nat → Int32) (c_a1_all_firstOf : Nat → Int32) (c_a1_all_clipAll : Nat → Int32) (c_a1_all_clipToOne : Nat → Int32) (c_a1_all_clipToTwo : Nat → Int32) (c_a1_steady_askers : Int32) (c_a1_steady_places : Int32) (c_a1_steady_seatBits : Int32) (c_a1_steady_entries : Int32) (c_a1_steady_gains : Nat → Int32) (c_a1_steady_solvedGains : Nat → Int32) (c_a1_steady_left : Nat → Int32) (c_a1_steady_best : Nat → Int32) (c_a1_steady_ways : Nat → Int32) (c_a1_steady_next : Nat → Int32) (c_a1_steady_firstOf : Nat → Int32) (c_a1_steady_clipAll : Nat → Int32) (c_a1_steady_clipToOne : Nat → Int32) (c_a1_steady_clipToTwo : Nat → Int32) (c_a1_aimed_askers : Int32) (c_a1_aimed_places : Int32) (c_a1_aimed_seatBits : Int32) (c_a1_aimed_entries : Int32) (c_a1_aimed_gains : Nat → Int32) (c_a1_aimed_solvedGains : Nat → Int32) (c_a1_aimed_left : Nat → Int32) (c_a1_aimed_best : Nat → Int32) (c_a1_aimed_ways : Nat → Int32) (c_a1_aimed_next : Nat → Int32) (c_a1_aimed_firstOf : Nat → Int32) (c_a1_aimed_clipAll : Nat → Int32) (c_a1_aimed_clipToOne : Nat → Int32) (c_a1_aimed_clipToTwo : Nat → Int32) (c_a1_steadiness_most : Int32) (c_a1_steadiness_tight : Int32) (c_a1_steadiness_firsts : Nat → Int32) (c_a1_trade_gets : Nat → Int32) (c_a1_trade_servedIn : Nat → Int32) (c_a1_trade_holds : Nat → Int32) (c_a1_trade_pointsAt : Nat → Int32) (c_a1_trade_holderOf : Nat → Int32) (c_a1_ring_length : Int32) (c_a1_ring_members : Nat → Int32) (c_a1_ring_wants : Nat → Int32) (c_a1_lots_age : Int32) (c_a1_lots_runs : Int64) (c_a1_lots_wanting : Int32) (c_a1_lots_wanted : Int32) (c_a1_lots_answers : Nat → Int32) (c_a1_lots_memoKeys : Nat → Int64) (c_a1_lots_memos : Nat → Int32) (c_a1_eating_whole : Int64) (c_a1_eating_time : Int64) (c_a1_eating_eaten : Nat → Int64) (c_a1_eating_rest : Nat → Int64) (c_a1_eating_eatsAt : Nat → Int32) (c_a1_eating_eaters : Nat → Int32) (c_a1_row : Nat → Int32) (c_a2_askers : Int32) (c_a2_places : Int32) (c_a2_above : Int64) (c_a2_below : Int64) (c_a2_full : Int32) (c_a2_firsts : Int32) (c_a2_freed : Int32) (c_a2_whole : Int64) (c_a2_seats : Nat → Int32) (c_a2_wish : Nat → Int32) (c_a2_told : Nat → Int32) (c_a2_weight : Nat → Int32) (c_a2_count : Nat → Int64) (c_a2_found : Nat → Int32) (c_a2_cost : Nat → Int64) (c_a2_least : Nat → Int64) (c_a2_prefer : Nat → Int32) (c_a2_next : Nat → Int32) (c_a2_firstWorth : Nat → Int32) (c_a2_secondWorth : Nat → Int32) (c_a2_stand : Nat → Int64) (c_a2_served : Nat → Int32) (c_a2_points : Nat → Int32) (c_a2_can : Nat → Int32) (c_a2_ring : Nat → Int32) (c_a2_ways : Nat → Int32) (c_a2_leftOf : Nat → Int64) (c_a2_ate : Nat → Int64) (c_a2_eats : Nat → Int32) (v3 : Int32) : Option Int32 :=
    (rdI L c_a0 (v3 + 1)).bind fun t1 =>
    (f_X7_margin N c_a1_board_askers c_a1_board_places c_a1_board_seats c_a1_board_told c_a1_board_wishes c_a1_aimed_askers c_a1_aimed_places c_a1_aimed_seatBits c_a1_aimed_entries c_a1_aimed_best c_a1_aimed_clipAll c_a1_aimed_clipToOne c_a1_aimed_clipToTwo c_a1_aimed_firstOf c_a1_aimed_gains c_a1_aimed_left c_a1_aimed_next c_a1_aimed_solvedGains c_a1_aimed_ways c_a1_all_slots t1).bind fun (r2, o3, o4, o5, o6, o7, o8, o9, o10, o11, o12, o13, o14, o15, o16, o17) =>
    (rdI L c_a0 (v3 + 1)).bind fun t19 =>
    (f_X8_margin N c_a2_askers c_a2_places c_a2_seats c_a2_told c_a2_wish c_a2_full c_a2_cost c_a2_found c_a2_least c_a2_weight t19).bind fun (r20, o21, o22, o23, o24, o25) =>
    (if r2 = r20 then
      k18 c_a1_above c_a1_below c_a1_board_askers c_a1_board_places c_a1_board_age c_a1_board_seats c_a1_board_wishes c_a1_board_likes c_a1_board_told o17 c_a1_all_askers c_a1_all_places c_a1_all_seatBits c_a1_all_entries c_a1_all_gains c_a1_all_solvedGains c_a1_all_left c_a1_all_best c_a1_all_ways c_a1_all_next c_a1_all_firstOf c_a1_all_clipAll c_a1_all_clipToOne c_a1_all_clipToTwo c_a1_steady_askers c_a1_steady_places c_a1_steady_seatBits c_a1_steady_entries c_a1_steady_gains c_a1_steady_solvedGains c_a1_steady_left c_a1_steady_best c_a1_steady_ways c_a1_steady_next c_a1_steady_firstOf c_a1_steady_clipAll c_a1_steady_clipToOne c_a1_steady_clipToTwo o3 o4 o5 o6 o12 o15 o13 o7 o16 o14 o11 o8 o9 o10 c_a1_steadiness_most c_a1_steadiness_tight c_a1_steadiness_firsts c_a1_trade_gets c_a1_trade_servedIn c_a1_trade_holds c_a1_trade_pointsAt c_a1_trade_holderOf c_a1_ring_length c_a1_ring_members c_a1_ring_wants c_a1_lots_age c_a1_lots_runs c_a1_lots_wanting c_a1_lots_wanted c_a1_lots_answers c_a1_lots_memoKeys c_a1_lots_memos c_a1_eating_whole c_a1_eating_time c_a1_eating_eaten c_a1_eating_rest c_a1_eating_eatsAt c_a1_eating_eaters c_a1_row c_a2_askers c_a2_places c_a2_above c_a2_below o21 c_a2_firsts c_a2_freed c_a2_whole c_a2_seats c_a2_wish c_a2_told o25 c_a2_count o23 o22 o24 c_a2_prefer c_a2_next c_a2_firstWorth c_a2_secondWorth c_a2_stand c_a2_served c_a2_points c_a2_can c_a2_ring c_a2_ways c_a2_leftOf c_a2_ate c_a2_eats (v3 + 4)
    else
      some 0)
def f_L_law_552 (N : Nat) (L : Nat) (c_a0 : Nat → Int32) (k18 : Int64 → Int64 → Int32 → Int32 → Int32 → (Nat → Int32) → (Nat → Int32) → (Nat → Int32) → (Nat → Int32) → (Nat → Int32) → Int32 → Int32 → Int32 → Int32 → (Nat → Int32) → (Nat → Int32) → (Nat → Int32) → (Nat → Int32) → (Nat → Int32) → (Nat → Int32) → (Nat → Int32) → (Nat → Int32) → (Nat → Int32) → (Nat → Int32) → Int32 → Int32 → Int32 → Int32 → (Nat → Int32) → (Nat → Int32) → (Nat → Int32) → (Nat → Int32) → (Nat → Int32) → (Nat → Int32) → (Nat → Int32) → (Nat → Int32) → (Nat → Int32) → (Nat → Int32) → Int32 → Int32 → Int32 → Int32 → (Nat → Int32) → (Nat → Int32) → (Nat → Int32) → (Nat → Int32) → (Nat → Int32) → (Nat → Int32) → (Nat → Int32) → (Nat → Int32) → (Nat → Int32) → (Nat → Int32) → Int32 → Int32 → (Nat → Int32) → (Nat → Int32) → (Nat → Int32) → (Nat → Int32) → (Nat → Int32) → (Nat → Int32) → Int32 → (Nat → Int32) → (Nat → Int32) → Int32 → Int64 → Int32 → Int32 → (Nat → Int32) → (Nat → Int64) → (Nat → Int32) → Int64 → Int64 → (Nat → Int64) → (Nat → Int64) → (Nat → Int32) → (Nat → Int32) → (Nat → Int32) → Int32 → Int32 → Int64 → Int64 → Int32 → Int32 → Int32 → Int64 → (Nat → Int32) → (Nat → Int32) → (Nat → Int32) → (Nat → Int32) → (Nat → Int64) → (Nat → Int32) → (Nat → Int64) → (Nat → Int64) → (Nat → Int32) → (Nat → Int32) → (Nat → Int32) → (Nat → Int32) → (Nat → Int64) → (Nat → Int32) → (Nat → Int32) → (Nat → Int32) → (Nat → Int32) → (Nat → Int32) → (Nat → Int64) → (Nat → Int64) → (Nat → Int32) → Int32 → Option Int32) (c_a1_above : Int64) (c_a1_below : Int64) (c_a1_board_askers : Int32) (c_a1_board_places : Int32) (c_a1_board_age : Int32) (c_a1_board_seats : Nat → Int32) (c_a1_board_wishes : Nat → Int32) (c_a1_board_likes : Nat → Int32) (c_a1_board_told : Nat → Int32) (c_a1_all_slots : Nat → Int32) (c_a1_all_askers : Int32) (c_a1_all_places : Int32) (c_a1_all_seatBits : Int32) (c_a1_all_entries : Int32) (c_a1_all_gains : Nat → Int32) (c_a1_all_solvedGains : Nat → Int32) (c_a1_all_left : Nat → Int32) (c_a1_all_best : Nat → Int32) (c_a1_all_ways : Nat → Int32) (c_a1_all_next : Nat → Int32) (c_a1_all_firstOf : Nat → Int32) (c_a1_all_clipAll : Nat → Int32) (c_a1_all_clipToOne : Nat → Int32) (c_a1_all_clipToTwo : Nat → Int32) (c_a1_steady_askers : Int32) (c_a1_steady_places : Int32) (c_a1_steady_seatBits : Int32) (c_a1_steady_entries : Int32) (c_a1_steady_gains : Nat → Int32) (c_a1_steady_solvedGains : Nat → Int32) (c_a1_steady_left : Nat → Int32) (c_a1_steady_best : Nat → Int32) (c_a1_steady_ways : Nat → Int32) (c_a1_steady_next : Nat → Int32) (c_a1_steady_firstOf : Nat → Int32) (c_a1_steady_clipAll : Nat → Int32) (c_a1_steady_clipToOne : Nat → Int32) (c_a1_steady_clipToTwo : Nat → Int32) (c_a1_aimed_askers : Int32) (c_a1_aimed_places : Int32) (c_a1_aimed_seatBits : Int32) (c_a1_aimed_entries : Int32) (c_a1_aimed_gains : Nat → Int32) (c_a1_aimed_solvedGains : Nat → Int32) (c_a1_aimed_left : Nat → Int32) (c_a1_aimed_best : Nat → Int32) (c_a1_aimed_ways : Nat → Int32) (c_a1_aimed_next : Nat → Int32) (c_a1_aimed_firstOf : Nat → Int32) (c_a1_aimed_clipAll : Nat → Int32) (c_a1_aimed_clipToOne : Nat → Int32) (c_a1_aimed_clipToTwo : Nat → Int32) (c_a1_steadiness_most : Int32) (c_a1_steadiness_tight : Int32) (c_a1_steadiness_firsts : Nat → Int32) (c_a1_trade_gets : Nat → Int32) (c_a1_trade_servedIn : Nat → Int32) (c_a1_trade_holds : Nat → Int32) (c_a1_trade_pointsAt : Nat → Int32) (c_a1_trade_holderOf : Nat → Int32) (c_a1_ring_length : Int32) (c_a1_ring_members : Nat → Int32) (c_a1_ring_wants : Nat → Int32) (c_a1_lots_age : Int32) (c_a1_lots_runs : Int64) (c_a1_lots_wanting : Int32) (c_a1_lots_wanted : Int32) (c_a1_lots_answers : Nat → Int32) (c_a1_lots_memoKeys : Nat → Int64) (c_a1_lots_memos : Nat → Int32) (c_a1_eating_whole : Int64) (c_a1_eating_time : Int64) (c_a1_eating_eaten : Nat → Int64) (c_a1_eating_rest : Nat → Int64) (c_a1_eating_eatsAt : Nat → Int32) (c_a1_eating_eaters : Nat → Int32) (c_a1_row : Nat → Int32) (c_a2_askers : Int32) (c_a2_places : Int32) (c_a2_above : Int64) (c_a2_below : Int64) (c_a2_full : Int32) (c_a2_firsts : Int32) (c_a2_freed : Int32) (c_a2_whole : Int64) (c_a2_seats : Nat → Int32) (c_a2_wish : Nat → Int32) (c_a2_told : Nat → Int32) (c_a2_weight : Nat → Int32) (c_a2_count : Nat → Int64) (c_a2_found : Nat → Int32) (c_a2_cost : Nat → Int64) (c_a2_least : Nat → Int64) (c_a2_prefer : Nat → Int32) (c_a2_next : Nat → Int32) (c_a2_firstWorth : Nat → Int32) (c_a2_secondWorth : Nat → Int32) (c_a2_stand : Nat → Int64) (c_a2_served : Nat → Int32) (c_a2_points : Nat → Int32) (c_a2_can : Nat → Int32) (c_a2_ring : Nat → Int32) (c_a2_ways : Nat → Int32) (c_a2_leftOf : Nat → Int64) (c_a2_ate : Nat → Int64) (c_a2_eats : Nat → Int32) (v3 : Int32) : Option Int32 :=
    (rdI L c_a0 (v3 + 1)).bind fun t1 =>
    (rdI L c_a0 (v3 + 2)).bind fun t2 =>
    (f_X7_votes N c_a1_board_askers c_a1_board_told c_a1_board_wishes c_a1_row t1 t2).bind fun (r3, o4) =>
    (rdI L c_a0 (v3 + 1)).bind fun t6 =>
    (rdI L c_a0 (v3 + 2)).bind fun t7 =>
    (f_X8_votes N c_a2_askers c_a2_told c_a2_wish t6 t7).bind fun r8 =>
    (if r3 = r8 then
      k18 c_a1_above c_a1_below c_a1_board_askers c_a1_board_places c_a1_board_age c_a1_board_seats c_a1_board_wishes c_a1_board_likes c_a1_board_told c_a1_all_slots c_a1_all_askers c_a1_all_places c_a1_all_seatBits c_a1_all_entries c_a1_all_gains c_a1_all_solvedGains c_a1_all_left c_a1_all_best c_a1_all_ways c_a1_all_next c_a1_all_firstOf c_a1_all_clipAll c_a1_all_clipToOne c_a1_all_clipToTwo c_a1_steady_askers c_a1_steady_places c_a1_steady_seatBits c_a1_steady_entries c_a1_steady_gains c_a1_steady_solvedGains c_a1_steady_left c_a1_steady_best c_a1_steady_ways c_a1_steady_next c_a1_steady_firstOf c_a1_steady_clipAll c_a1_steady_clipToOne c_a1_steady_clipToTwo c_a1_aimed_askers c_a1_aimed_places c_a1_aimed_seatBits c_a1_aimed_entries c_a1_aimed_gains c_a1_aimed_solvedGains c_a1_aimed_left c_a1_aimed_best c_a1_aimed_ways c_a1_aimed_next c_a1_aimed_firstOf c_a1_aimed_clipAll c_a1_aimed_clipToOne c_a1_aimed_clipToTwo c_a1_steadiness_most c_a1_steadiness_tight c_a1_steadiness_firsts c_a1_trade_gets c_a1_trade_servedIn c_a1_trade_holds c_a1_trade_pointsAt c_a1_trade_holderOf c_a1_ring_length c_a1_ring_members c_a1_ring_wants c_a1_lots_age c_a1_lots_runs c_a1_lots_wanting c_a1_lots_wanted c_a1_lots_answers c_a1_lots_memoKeys c_a1_lots_memos c_a1_eating_whole c_a1_eating_time c_a1_eating_eaten c_a1_eating_rest c_a1_eating_eatsAt c_a1_eating_eaters o4 c_a2_askers c_a2_places c_a2_above c_a2_below c_a2_full c_a2_firsts c_a2_freed c_a2_whole c_a2_seats c_a2_wish c_a2_told c_a2_weight c_a2_count c_a2_found c_a2_cost c_a2_least c_a2_prefer c_a2_next c_a2_firstWorth c_a2_secondWorth c_a2_stand c_a2_served c_a2_points c_a2_can c_a2_ring c_a2_ways c_a2_leftOf c_a2_ate c_a2_eats (v3 + 4)
    else
      some 0)
def f_L_law_519 (N : Nat) (L : Nat) (c_a0 : Nat → Int32) (k18 : Int64 → Int64 → Int32 → Int32 → Int32 → (Nat → Int32) → (Nat → Int32) → (Nat → Int32) → (Nat → Int32) → (Nat → Int32) → Int32 → Int32 → Int32 → Int32 → (Nat → Int32) → (Nat → Int32) → (Nat → Int32) → (Nat → Int32) → (Nat → Int32) → (Nat → Int32) → (Nat → Int32) → (Nat → Int32) → (Nat → Int32) → (Nat → Int32) → Int32 → Int32 → Int32 → Int32 → (Nat → Int32) → (Nat → Int32) → (Nat → Int32) → (Nat → Int32) → (Nat → Int32) → (Nat → Int32) → (Nat → Int32) → (Nat → Int32) → (Nat → Int32) → (Nat → Int32) → Int32 → Int32 → Int32 → Int32 → (Nat → Int32) → (Nat → Int32) → (Nat → Int32) → (Nat → Int32) → (Nat → Int32) → (Nat → Int32) → (Nat → Int32) → (Nat → Int32) → (Nat → Int32) → (Nat → Int32) → Int32 → Int32 → (Nat → Int32) → (Nat → Int32) → (Nat → Int32) → (Nat → Int32) → (Nat → Int32) → (Nat → Int32) → Int32 → (Nat → Int32) → (Nat → Int32) → Int32 → Int64 → Int32 → Int32 → (Nat → Int32) → (Nat → Int64) → (Nat → Int32) → Int64 → Int64 → (Nat → Int64) → (Nat → Int64) → (Nat → Int32) → (Nat → Int32) → (Nat → Int32) → Int32 → Int32 → Int64 → Int64 → Int32 → Int32 → Int32 → Int64 → (Nat → Int32) → (Nat → Int32) → (Nat → Int32) → (Nat → Int32) → (Nat → Int64) → (Nat → Int32) → (Nat → Int64) → (Nat → Int64) → (Nat → Int32) → (Nat → Int32) → (Nat → Int32) → (Nat → Int32) → (Nat → Int64) → (Nat → Int32) → (Nat → Int32) → (Nat → Int32) → (Nat → Int32) → (Nat → Int32) → (Nat → Int64) → (Nat → Int64) → (Nat → Int32) → Int32 → Option Int32) (c_a1_above : Int64) (c_a1_below : Int64) (c_a1_board_askers : Int32) (c_a1_board_places : Int32) (c_a1_board_age : Int32) (c_a1_board_seats : Nat → Int32) (c_a1_board_wishes : Nat → Int32) (c_a1_board_likes : Nat → Int32) (c_a1_board_told : Nat → Int32) (c_a1_all_slots : Nat → Int32) (c_a1_all_askers : Int32) (c_a1_all_places : Int32) (c_a1_all_seatBits : Int32) (c_a1_all_entries : Int32) (c_a1_all_gains : Nat → Int32) (c_a1_all_solvedGains : Nat → Int32) (c_a1_all_left : Nat → Int32) (c_a1_all_best : Nat → Int32) (c_a1_all_ways : Nat → Int32) (c_a1_all_next : Nat → Int32) (c_a1_all_firstOf : Nat → Int32) (c_a1_all_clipAll : Nat → Int32) (c_a1_all_clipToOne : Nat → Int32) (c_a1_all_clipToTwo : Nat → Int32) (c_a1_steady_askers : Int32) (c_a1_steady_places : Int32) (c_a1_steady_seatBits : Int32) (c_a1_steady_entries : Int32) (c_a1_steady_gains : Nat → Int32) (c_a1_steady_solvedGains : Nat → Int32) (c_a1_steady_left : Nat → Int32) (c_a1_steady_best : Nat → Int32) (c_a1_steady_ways : Nat → Int32) (c_a1_steady_next : Nat → Int32) (c_a1_steady_firstOf : Nat → Int32) (c_a1_steady_clipAll : Nat → Int32) (c_a1_steady_clipToOne : Nat → Int32) (c_a1_steady_clipToTwo : Nat → Int32) (c_a1_aimed_askers : Int32) (c_a1_aimed_places : Int32) (c_a1_aimed_seatBits : Int32) (c_a1_aimed_entries : Int32) (c_a1_aimed_gains : Nat → Int32) (c_a1_aimed_solvedGains : Nat → Int32) (c_a1_aimed_left : Nat → Int32) (c_a1_aimed_best : Nat → Int32) (c_a1_aimed_ways : Nat → Int32) (c_a1_aimed_next : Nat → Int32) (c_a1_aimed_firstOf : Nat → Int32) (c_a1_aimed_clipAll : Nat → Int32) (c_a1_aimed_clipToOne : Nat → Int32) (c_a1_aimed_clipToTwo : Nat → Int32) (c_a1_steadiness_most : Int32) (c_a1_steadiness_tight : Int32) (c_a1_steadiness_firsts : Nat → Int32) (c_a1_trade_gets : Nat → Int32) (c_a1_trade_servedIn : Nat → Int32) (c_a1_trade_holds : Nat → Int32) (c_a1_trade_pointsAt : Nat → Int32) (c_a1_trade_holderOf : Nat → Int32) (c_a1_ring_length : Int32) (c_a1_ring_members : Nat → Int32) (c_a1_ring_wants : Nat → Int32) (c_a1_lots_age : Int32) (c_a1_lots_runs : Int64) (c_a1_lots_wanting : Int32) (c_a1_lots_wanted : Int32) (c_a1_lots_answers : Nat → Int32) (c_a1_lots_memoKeys : Nat → Int64) (c_a1_lots_memos : Nat → Int32) (c_a1_eating_whole : Int64) (c_a1_eating_time : Int64) (c_a1_eating_eaten : Nat → Int64) (c_a1_eating_rest : Nat → Int64) (c_a1_eating_eatsAt : Nat → Int32) (c_a1_eating_eaters : Nat → Int32) (c_a1_row : Nat → Int32) (c_a2_askers : Int32) (c_a2_places : Int32) (c_a2_above : Int64) (c_a2_below : Int64) (c_a2_full : Int32) (c_a2_firsts : Int32) (c_a2_freed : Int32) (c_a2_whole : Int64) (c_a2_seats : Nat → Int32) (c_a2_wish : Nat → Int32) (c_a2_told : Nat → Int32) (c_a2_weight : Nat → Int32) (c_a2_count : Nat → Int64) (c_a2_found : Nat → Int32) (c_a2_cost : Nat → Int64) (c_a2_least : Nat → Int64) (c_a2_prefer : Nat → Int32) (c_a2_next : Nat → Int32) (c_a2_firstWorth : Nat → Int32) (c_a2_secondWorth : Nat → Int32) (c_a2_stand : Nat → Int64) (c_a2_served : Nat → Int32) (c_a2_points : Nat → Int32) (c_a2_can : Nat → Int32) (c_a2_ring : Nat → Int32) (c_a2_ways : Nat → Int32) (c_a2_leftOf : Nat → Int64) (c_a2_ate : Nat → Int64) (c_a2_eats : Nat → Int32) (v3 : Int32) : Option Int32 :=
    (rdI L c_a0 (v3 + 1)).bind fun t1 =>
    (rdI L c_a0 (v3 + 2)).bind fun t2 =>
    (f_X7_many N c_a1_board_askers c_a1_board_told c_a1_board_wishes t1 t2).bind fun r3 =>
    (rdI L c_a0 (v3 + 1)).bind fun t5 =>
    (rdI L c_a0 (v3 + 2)).bind fun t6 =>
    (f_X8_many N c_a2_askers c_a2_told c_a2_wish t5 t6).bind fun r7 =>
    (if r3 = r7 then
      k18 c_a1_above c_a1_below c_a1_board_askers c_a1_board_places c_a1_board_age c_a1_board_seats c_a1_board_wishes c_a1_board_likes c_a1_board_told c_a1_all_slots c_a1_all_askers c_a1_all_places c_a1_all_seatBits c_a1_all_entries c_a1_all_gains c_a1_all_solvedGains c_a1_all_left c_a1_all_best c_a1_all_ways c_a1_all_next c_a1_all_firstOf c_a1_all_clipAll c_a1_all_clipToOne c_a1_all_clipToTwo c_a1_steady_askers c_a1_steady_places c_a1_steady_seatBits c_a1_steady_entries c_a1_steady_gains c_a1_steady_solvedGains c_a1_steady_left c_a1_steady_best c_a1_steady_ways c_a1_steady_next c_a1_steady_firstOf c_a1_steady_clipAll c_a1_steady_clipToOne c_a1_steady_clipToTwo c_a1_aimed_askers c_a1_aimed_places c_a1_aimed_seatBits c_a1_aimed_entries c_a1_aimed_gains c_a1_aimed_solvedGains c_a1_aimed_left c_a1_aimed_best c_a1_aimed_ways c_a1_aimed_next c_a1_aimed_firstOf c_a1_aimed_clipAll c_a1_aimed_clipToOne c_a1_aimed_clipToTwo c_a1_steadiness_most c_a1_steadiness_tight c_a1_steadiness_firsts c_a1_trade_gets c_a1_trade_servedIn c_a1_trade_holds c_a1_trade_pointsAt c_a1_trade_holderOf c_a1_ring_length c_a1_ring_members c_a1_ring_wants c_a1_lots_age c_a1_lots_runs c_a1_lots_wanting c_a1_lots_wanted c_a1_lots_answers c_a1_lots_memoKeys c_a1_lots_memos c_a1_eating_whole c_a1_eating_time c_a1_eating_eaten c_a1_eating_rest c_a1_eating_eatsAt c_a1_eating_eaters c_a1_row c_a2_askers c_a2_places c_a2_above c_a2_below c_a2_full c_a2_firsts c_a2_freed c_a2_whole c_a2_seats c_a2_wish c_a2_told c_a2_weight c_a2_count c_a2_found c_a2_cost c_a2_least c_a2_prefer c_a2_next c_a2_firstWorth c_a2_secondWorth c_a2_stand c_a2_served c_a2_points c_a2_can c_a2_ring c_a2_ways c_a2_leftOf c_a2_ate c_a2_eats (v3 + 4)
    else
      some 0)
def f_L_law_495 (N : Nat) (L : Nat) (c_a0 : Nat → Int32) (k18 : Int64 → Int64 → Int32 → Int32 → Int32 → (Nat → Int32) → (Nat → Int32) → (Nat → Int32) → (Nat → Int32) → (Nat → Int32) → Int32 → Int32 → Int32 → Int32 → (Nat → Int32) → (Nat → Int32) → (Nat → Int32) → (Nat → Int32) → (Nat → Int32) → (Nat → Int32) → (Nat → Int32) → (Nat → Int32) → (Nat → Int32) → (Nat → Int32) → Int32 → Int32 → Int32 → Int32 → (Nat → Int32) → (Nat → Int32) → (Nat → Int32) → (Nat → Int32) → (Nat → Int32) → (Nat → Int32) → (Nat → Int32) → (Nat → Int32) → (Nat → Int32) → (Nat → Int32) → Int32 → Int32 → Int32 → Int32 → (Nat → Int32) → (Nat → Int32) → (Nat → Int32) → (Nat → Int32) → (Nat → Int32) → (Nat → Int32) → (Nat → Int32) → (Nat → Int32) → (Nat → Int32) → (Nat → Int32) → Int32 → Int32 → (Nat → Int32) → (Nat → Int32) → (Nat → Int32) → (Nat → Int32) → (Nat → Int32) → (Nat → Int32) → Int32 → (Nat → Int32) → (Nat → Int32) → Int32 → Int64 → Int32 → Int32 → (Nat → Int32) → (Nat → Int64) → (Nat → Int32) → Int64 → Int64 → (Nat → Int64) → (Nat → Int64) → (Nat → Int32) → (Nat → Int32) → (Nat → Int32) → Int32 → Int32 → Int64 → Int64 → Int32 → Int32 → Int32 → Int64 → (Nat → Int32) → (Nat → Int32) → (Nat → Int32) → (Nat → Int32) → (Nat → Int64) → (Nat → Int32) → (Nat → Int64) → (Nat → Int64) → (Nat → Int32) → (Nat → Int32) → (Nat → Int32) → (Nat → Int32) → (Nat → Int64) → (Nat → Int32) → (Nat → Int32) → (Nat → Int32) → (Nat → Int32) → (Nat → Int32) → (Nat → Int64) → (Nat → Int64) → (Nat → Int32) → Int32 → Option Int32) (c_a1_above : Int64) (c_a1_below : Int64) (c_a1_board_askers : Int32) (c_a1_board_places : Int32) (c_a1_board_age : Int32) (c_a1_board_seats : Nat → Int32) (c_a1_board_wishes : Nat → Int32) (c_a1_board_likes : Nat → Int32) (c_a1_board_told : Nat → Int32) (c_a1_all_slots : Nat → Int32) (c_a1_all_askers : Int32) (c_a1_all_places : Int32) (c_a1_all_seatBits : Int32) (c_a1_all_entries : Int32) (c_a1_all_gains : Nat → Int32) (c_a1_all_solvedGains : Nat → Int32) (c_a1_all_left : Nat → Int32) (c_a1_all_best : Nat → Int32) (c_a1_all_ways : Nat → Int32) (c_a1_all_next : Nat → Int32) (c_a1_all_firstOf : Nat → Int32) (c_a1_all_clipAll : Nat → Int32) (c_a1_all_clipToOne : Nat → Int32) (c_a1_all_clipToTwo : Nat → Int32) (c_a1_steady_askers : Int32) (c_a1_steady_places : Int32) (c_a1_steady_seatBits : Int32) (c_a1_steady_entries : Int32) (c_a1_steady_gains : Nat → Int32) (c_a1_steady_solvedGains : Nat → Int32) (c_a1_steady_left : Nat → Int32) (c_a1_steady_best : Nat → Int32) (c_a1_steady_ways : Nat → Int32) (c_a1_steady_next : Nat → Int32) (c_a1_steady_firstOf : Nat → Int32) (c_a1_steady_clipAll : Nat → Int32) (c_a1_steady_clipToOne : Nat → Int32) (c_a1_steady_clipToTwo : Nat → Int32) (c_a1_aimed_askers : Int32) (c_a1_aimed_places : Int32) (c_a1_aimed_seatBits : Int32) (c_a1_aimed_entries : Int32) (c_a1_aimed_gains : Nat → Int32) (c_a1_aimed_solvedGains : Nat → Int32) (c_a1_aimed_left : Nat → Int32) (c_a1_aimed_best : Nat → Int32) (c_a1_aimed_ways : Nat → Int32) (c_a1_aimed_next : Nat → Int32) (c_a1_aimed_firstOf : Nat → Int32) (c_a1_aimed_clipAll : Nat → Int32) (c_a1_aimed_clipToOne : Nat → Int32) (c_a1_aimed_clipToTwo : Nat → Int32) (c_a1_steadiness_most : Int32) (c_a1_steadiness_tight : Int32) (c_a1_steadiness_firsts : Nat → Int32) (c_a1_trade_gets : Nat → Int32) (c_a1_trade_servedIn : Nat → Int32) (c_a1_trade_holds : Nat → Int32) (c_a1_trade_pointsAt : Nat → Int32) (c_a1_trade_holderOf : Nat → Int32) (c_a1_ring_length : Int32) (c_a1_ring_members : Nat → Int32) (c_a1_ring_wants : Nat → Int32) (c_a1_lots_age : Int32) (c_a1_lots_runs : Int64) (c_a1_lots_wanting : Int32) (c_a1_lots_wanted : Int32) (c_a1_lots_answers : Nat → Int32) (c_a1_lots_memoKeys : Nat → Int64) (c_a1_lots_memos : Nat → Int32) (c_a1_eating_whole : Int64) (c_a1_eating_time : Int64) (c_a1_eating_eaten : Nat → Int64) (c_a1_eating_rest : Nat → Int64) (c_a1_eating_eatsAt : Nat → Int32) (c_a1_eating_eaters : Nat → Int32) (c_a1_row : Nat → Int32) (c_a2_askers : Int32) (c_a2_places : Int32) (c_a2_above : Int64) (c_a2_below : Int64) (c_a2_full : Int32) (c_a2_firsts : Int32) (c_a2_freed : Int32) (c_a2_whole : Int64) (c_a2_seats : Nat → Int32) (c_a2_wish : Nat → Int32) (c_a2_told : Nat → Int32) (c_a2_weight : Nat → Int32) (c_a2_count : Nat → Int64) (c_a2_found : Nat → Int32) (c_a2_cost : Nat → Int64) (c_a2_least : Nat → Int64) (c_a2_prefer : Nat → Int32) (c_a2_next : Nat → Int32) (c_a2_firstWorth : Nat → Int32) (c_a2_secondWorth : Nat → Int32) (c_a2_stand : Nat → Int64) (c_a2_served : Nat → Int32) (c_a2_points : Nat → Int32) (c_a2_can : Nat → Int32) (c_a2_ring : Nat → Int32) (c_a2_ways : Nat → Int32) (c_a2_leftOf : Nat → Int64) (c_a2_ate : Nat → Int64) (c_a2_eats : Nat → Int32) (v3 : Int32) : Option Int32 :=
    (rdI L c_a0 (v3 + 1)).bind fun t1 =>
    (f_X7_placeOf N c_a1_board_askers c_a1_board_places c_a1_board_seats c_a1_board_told c_a1_board_wishes c_a1_all_askers c_a1_all_places c_a1_all_seatBits c_a1_all_entries c_a1_row c_a1_all_best c_a1_all_clipAll c_a1_all_clipToOne c_a1_all_clipToTwo c_a1_all_firstOf c_a1_all_gains c_a1_all_left c_a1_all_next c_a1_all_slots c_a1_all_solvedGains c_a1_all_ways t1).bind fun (r2, o3, o4, o5, o6, o7, o8, o9, o10, o11, o12, o13, o14, o15, o16, o17, o18) =>
    (rdI L c_a0 (v3 + 1)).bind fun t20 =>
    (f_X8_placeOf N c_a2_askers c_a2_places c_a2_seats c_a2_told c_a2_wish c_a2_full c_a2_count c_a2_weight t20).bind fun (r21, o22, o23, o24) =>
    (if r2 = r21 then
      k18 c_a1_above c_a1_below c_a1_board_askers c_a1_board_places c_a1_board_age c_a1_board_seats c_a1_board_wishes c_a1_board_likes c_a1_board_told o16 o3 o4 o5 o6 o13 o17 o14 o8 o18 o15 o12 o9 o10 o11 c_a1_steady_askers c_a1_steady_places c_a1_steady_seatBits c_a1_steady_entries c_a1_steady_gains c_a1_steady_solvedGains c_a1_steady_left c_a1_steady_best c_a1_steady_ways c_a1_steady_next c_a1_steady_firstOf c_a1_steady_clipAll c_a1_steady_clipToOne c_a1_steady_clipToTwo c_a1_aimed_askers c_a1_aimed_places c_a1_aimed_seatBits c_a1_aimed_entries c_a1_aimed_gains c_a1_aimed_solvedGains c_a1_aimed_left c_a1_aimed_best c_a1_aimed_ways c_a1_aimed_next c_a1_aimed_firstOf c_a1_aimed_clipAll c_a1_aimed_clipToOne c_a1_aimed_clipToTwo c_a1_steadiness_most c_a1_steadiness_tight c_a1_steadiness_firsts c_a1_trade_gets c_a1_trade_servedIn c_a1_trade_holds c_a1_trade_pointsAt c_a1_trade_holderOf c_a1_ring_length c_a1_ring_members c_a1_ring_wants c_a1_lots_age c_a1_lots_runs c_a1_lots_wanting c_a1_lots_wanted c_a1_lots_answers c_a1_lots_memoKeys c_a1_lots_memos c_a1_eating_whole c_a1_eating_time c_a1_eating_eaten c_a1_eating_rest c_a1_eating_eatsAt c_a1_eating_eaters o7 c_a2_askers c_a2_places c_a2_above c_a2_below o22 c_a2_firsts c_a2_freed c_a2_whole c_a2_seats c_a2_wish c_a2_told o24 o23 c_a2_found c_a2_cost c_a2_least c_a2_prefer c_a2_next c_a2_firstWorth c_a2_secondWorth c_a2_stand c_a2_served c_a2_points c_a2_can c_a2_ring c_a2_ways c_a2_leftOf c_a2_ate c_a2_eats (v3 + 4)
    else
      some 0)
def f_L_law_462 (N : Nat) (L : Nat) (c_a0 : Nat → Int32) (k18 : Int64 → Int64 → Int32 → Int32 → Int32 → (Nat → Int32) → (Nat → Int32) → (Nat → Int32) → (Nat → Int32) → (Nat → Int32) → Int32 → Int32 → Int32 → Int32 → (Nat → Int32) → (Nat → Int32) → (Nat → Int32) → (Nat → Int32) → (Nat → Int32) → (Nat → Int32) → (Nat → Int32) → (Nat → Int32) → (Nat → Int32) → (Nat → Int32) → Int32 → Int32 → Int32 → Int32 → (Nat → Int32) → (Nat → Int32) → (Nat → Int32) → (Nat → Int32) → (Nat → Int32) → (Nat → Int32) → (Nat → Int32) → (Nat → Int32) → (Nat → Int32) → (Nat → Int32) → Int32 → Int32 → Int32 → Int32 → (Nat → Int32) → (Nat → Int32) → (Nat → Int32) → (Nat → Int32) → (Nat → Int32) → (Nat → Int32) → (Nat → Int32) → (Nat → Int32) → (Nat → Int32) → (Nat → Int32) → Int32 → Int32 → (Nat → Int32) → (Nat → Int32) → (Nat → Int32) → (Nat → Int32) → (Nat → Int32) → (Nat → Int32) → Int32 → (Nat → Int32) → (Nat → Int32) → Int32 → Int64 → Int32 → Int32 → (Nat → Int32) → (Nat → Int64) → (Nat → Int32) → Int64 → Int64 → (Nat → Int64) → (Nat → Int64) → (Nat → Int32) → (Nat → Int32) → (Nat → Int32) → Int32 → Int32 → Int64 → Int64 → Int32 → Int32 → Int32 → Int64 → (Nat → Int32) → (Nat → Int32) → (Nat → Int32) → (Nat → Int32) → (Nat → Int64) → (Nat → Int32) → (Nat → Int64) → (Nat → Int64) → (Nat → Int32) → (Nat → Int32) → (Nat → Int32) → (Nat → Int32) → (Nat → Int64) → (Nat → Int32) → (Nat → Int32) → (Nat → Int32) → (Nat → Int32) → (Nat → Int32) → (Nat → Int64) → (Nat → Int64) → (Nat → Int32) → Int32 → Option Int32) (c_a1_above : Int64) (c_a1_below : Int64) (c_a1_board_askers : Int32) (c_a1_board_places : Int32) (c_a1_board_age : Int32) (c_a1_board_seats : Nat → Int32) (c_a1_board_wishes : Nat → Int32) (c_a1_board_likes : Nat → Int32) (c_a1_board_told : Nat → Int32) (c_a1_all_slots : Nat → Int32) (c_a1_all_askers : Int32) (c_a1_all_places : Int32) (c_a1_all_seatBits : Int32) (c_a1_all_entries : Int32) (c_a1_all_gains : Nat → Int32) (c_a1_all_solvedGains : Nat → Int32) (c_a1_all_left : Nat → Int32) (c_a1_all_best : Nat → Int32) (c_a1_all_ways : Nat → Int32) (c_a1_all_next : Nat → Int32) (c_a1_all_firstOf : Nat → Int32) (c_a1_all_clipAll : Nat → Int32) (c_a1_all_clipToOne : Nat → Int32) (c_a1_all_clipToTwo : Nat → Int32) (c_a1_steady_askers : Int32) (c_a1_steady_places : Int32) (c_a1_steady_seatBits : Int32) (c_a1_steady_entries : Int32) (c_a1_steady_gains : Nat → Int32) (c_a1_steady_solvedGains : Nat → Int32) (c_a1_steady_left : Nat → Int32) (c_a1_steady_best : Nat → Int32) (c_a1_steady_ways : Nat → Int32) (c_a1_steady_next : Nat → Int32) (c_a1_steady_firstOf : Nat → Int32) (c_a1_steady_clipAll : Nat → Int32) (c_a1_steady_clipToOne : Nat → Int32) (c_a1_steady_clipToTwo : Nat → Int32) (c_a1_aimed_askers : Int32) (c_a1_aimed_places : Int32) (c_a1_aimed_seatBits : Int32) (c_a1_aimed_entries : Int32) (c_a1_aimed_gains : Nat → Int32) (c_a1_aimed_solvedGains : Nat → Int32) (c_a1_aimed_left : Nat → Int32) (c_a1_aimed_best : Nat → Int32) (c_a1_aimed_ways : Nat → Int32) (c_a1_aimed_next : Nat → Int32) (c_a1_aimed_firstOf : Nat → Int32) (c_a1_aimed_clipAll : Nat → Int32) (c_a1_aimed_clipToOne : Nat → Int32) (c_a1_aimed_clipToTwo : Nat → Int32) (c_a1_steadiness_most : Int32) (c_a1_steadiness_tight : Int32) (c_a1_steadiness_firsts : Nat → Int32) (c_a1_trade_gets : Nat → Int32) (c_a1_trade_servedIn : Nat → Int32) (c_a1_trade_holds : Nat → Int32) (c_a1_trade_pointsAt : Nat → Int32) (c_a1_trade_holderOf : Nat → Int32) (c_a1_ring_length : Int32) (c_a1_ring_members : Nat → Int32) (c_a1_ring_wants : Nat → Int32) (c_a1_lots_age : Int32) (c_a1_lots_runs : Int64) (c_a1_lots_wanting : Int32) (c_a1_lots_wanted : Int32) (c_a1_lots_answers : Nat → Int32) (c_a1_lots_memoKeys : Nat → Int64) (c_a1_lots_memos : Nat → Int32) (c_a1_eating_whole : Int64) (c_a1_eating_time : Int64) (c_a1_eating_eaten : Nat → Int64) (c_a1_eating_rest : Nat → Int64) (c_a1_eating_eatsAt : Nat → Int32) (c_a1_eating_eaters : Nat → Int32) (c_a1_row : Nat → Int32) (c_a2_askers : Int32) (c_a2_places : Int32) (c_a2_above : Int64) (c_a2_below : Int64) (c_a2_full : Int32) (c_a2_firsts : Int32) (c_a2_freed : Int32) (c_a2_whole : Int64) (c_a2_seats : Nat → Int32) (c_a2_wish : Nat → Int32) (c_a2_told : Nat → Int32) (c_a2_weight : Nat → Int32) (c_a2_count : Nat → Int64) (c_a2_found : Nat → Int32) (c_a2_cost : Nat → Int64) (c_a2_least : Nat → Int64) (c_a2_prefer : Nat → Int32) (c_a2_next : Nat → Int32) (c_a2_firstWorth : Nat → Int32) (c_a2_secondWorth : Nat → Int32) (c_a2_stand : Nat → Int64) (c_a2_served : Nat → Int32) (c_a2_points : Nat → Int32) (c_a2_can : Nat → Int32) (c_a2_ring : Nat → Int32) (c_a2_ways : Nat → Int32) (c_a2_leftOf : Nat → Int64) (c_a2_ate : Nat → Int64) (c_a2_eats : Nat → Int32) (v3 : Int32) : Option Int32 :=
    (rdI L c_a0 (v3 + 1)).bind fun t1 =>
    (rdI L c_a0 (v3 + 2)).bind fun t2 =>
    (f_X7_has N c_a1_board_askers c_a1_board_told t1 t2).bind fun r3 =>
    (rdI L c_a0 (v3 + 1)).bind fun t5 =>
    (rdI L c_a0 (v3 + 2)).bind fun t6 =>
    (f_X8_has N c_a2_askers c_a2_told t5 t6).bind fun r7 =>
    (if r3 = r7 then
      k18 c_a1_above c_a1_below c_a1_board_askers c_a1_board_places c_a1_board_age c_a1_board_seats c_a1_board_wishes c_a1_board_likes c_a1_board_told c_a1_all_slots c_a1_all_askers c_a1_all_places c_a1_all_seatBits c_a1_all_entries c_a1_all_gains c_a1_all_solvedGains c_a1_all_left c_a1_all_best c_a1_all_ways c_a1_all_next c_a1_all_firstOf c_a1_all_clipAll c_a1_all_clipToOne c_a1_all_clipToTwo c_a1_steady_askers c_a1_steady_places c_a1_steady_seatBits c_a1_steady_entries c_a1_steady_gains c_a1_steady_solvedGains c_a1_steady_left c_a1_steady_best c_a1_steady_ways c_a1_steady_next c_a1_steady_firstOf c_a1_steady_clipAll c_a1_steady_clipToOne c_a1_steady_clipToTwo c_a1_aimed_askers c_a1_aimed_places c_a1_aimed_seatBits c_a1_aimed_entries c_a1_aimed_gains c_a1_aimed_solvedGains c_a1_aimed_left c_a1_aimed_best c_a1_aimed_ways c_a1_aimed_next c_a1_aimed_firstOf c_a1_aimed_clipAll c_a1_aimed_clipToOne c_a1_aimed_clipToTwo c_a1_steadiness_most c_a1_steadiness_tight c_a1_steadiness_firsts c_a1_trade_gets c_a1_trade_servedIn c_a1_trade_holds c_a1_trade_pointsAt c_a1_trade_holderOf c_a1_ring_length c_a1_ring_members c_a1_ring_wants c_a1_lots_age c_a1_lots_runs c_a1_lots_wanting c_a1_lots_wanted c_a1_lots_answers c_a1_lots_memoKeys c_a1_lots_memos c_a1_eating_whole c_a1_eating_time c_a1_eating_eaten c_a1_eating_rest c_a1_eating_eatsAt c_a1_eating_eaters c_a1_row c_a2_askers c_a2_places c_a2_above c_a2_below c_a2_full c_a2_firsts c_a2_freed c_a2_whole c_a2_seats c_a2_wish c_a2_told c_a2_weight c_a2_count c_a2_found c_a2_cost c_a2_least c_a2_prefer c_a2_next c_a2_firstWorth c_a2_secondWorth c_a2_stand c_a2_served c_a2_points c_a2_can c_a2_ring c_a2_ways c_a2_leftOf c_a2_ate c_a2_eats (v3 + 4)
    else
      some 0)
def f_L_law_429 (N : Nat) (L : Nat) (c_a0 : Nat → Int32) (k18 : Int64 → Int64 → Int32 → Int32 → Int32 → (Nat → Int32) → (Nat → Int32) → (Nat → Int32) → (Nat → Int32) → (Nat → Int32) → Int32 → Int32 → Int32 → Int32 → (Nat → Int32) → (Nat → Int32) → (Nat → Int32) → (Nat → Int32) → (Nat → Int32) → (Nat → Int32) → (Nat → Int32) → (Nat → Int32) → (Nat → Int32) → (Nat → Int32) → Int32 → Int32 → Int32 → Int32 → (Nat → Int32) → (Nat → Int32) → (Nat → Int32) → (Nat → Int32) → (Nat → Int32) → (Nat → Int32) → (Nat → Int32) → (Nat → Int32) → (Nat → Int32) → (Nat → Int32) → Int32 → Int32 → Int32 → Int32 → (Nat → Int32) → (Nat → Int32) → (Nat → Int32) → (Nat → Int32) → (Nat → Int32) → (Nat → Int32) → (Nat → Int32) → (Nat → Int32) → (Nat → Int32) → (Nat → Int32) → Int32 → Int32 → (Nat → Int32) → (Nat → Int32) → (Nat → Int32) → (Nat → Int32) → (Nat → Int32) → (Nat → Int32) → Int32 → (Nat → Int32) → (Nat → Int32) → Int32 → Int64 → Int32 → Int32 → (Nat → Int32) → (Nat → Int64) → (Nat → Int32) → Int64 → Int64 → (Nat → Int64) → (Nat → Int64) → (Nat → Int32) → (Nat → Int32) → (Nat → Int32) → Int32 → Int32 → Int64 → Int64 → Int32 → Int32 → Int32 → Int64 → (Nat → Int32) → (Nat → Int32) → (Nat → Int32) → (Nat → Int32) → (Nat → Int64) → (Nat → Int32) → (Nat → Int64) → (Nat → Int64) → (Nat → Int32) → (Nat → Int32) → (Nat → Int32) → (Nat → Int32) → (Nat → Int64) → (Nat → Int32) → (Nat → Int32) → (Nat → Int32) → (Nat → Int32) → (Nat → Int32) → (Nat → Int64) → (Nat → Int64) → (Nat → Int32) → Int32 → Option Int32) (c_a1_above : Int64) (c_a1_below : Int64) (c_a1_board_askers : Int32) (c_a1_board_places : Int32) (c_a1_board_age : Int32) (c_a1_board_seats : Nat → Int32) (c_a1_board_wishes : Nat → Int32) (c_a1_board_likes : Nat → Int32) (c_a1_board_told : Nat → Int32) (c_a1_all_slots : Nat → Int32) (c_a1_all_askers : Int32) (c_a1_all_places : Int32) (c_a1_all_seatBits : Int32) (c_a1_all_entries : Int32) (c_a1_all_gains : Nat → Int32) (c_a1_all_solvedGains : Nat → Int32) (c_a1_all_left : Nat → Int32) (c_a1_all_best : Nat → Int32) (c_a1_all_ways : Nat → Int32) (c_a1_all_next : Nat → Int32) (c_a1_all_firstOf : Nat → Int32) (c_a1_all_clipAll : Nat → Int32) (c_a1_all_clipToOne : Nat → Int32) (c_a1_all_clipToTwo : Nat → Int32) (c_a1_steady_askers : Int32) (c_a1_steady_places : Int32) (c_a1_steady_seatBits : Int32) (c_a1_steady_entries : Int32) (c_a1_steady_gains : Nat → Int32) (c_a1_steady_solvedGains : Nat → Int32) (c_a1_steady_left : Nat → Int32) (c_a1_steady_best : Nat → Int32) (c_a1_steady_ways : Nat → Int32) (c_a1_steady_next : Nat → Int32) (c_a1_steady_firstOf : Nat → Int32) (c_a1_steady_clipAll : Nat → Int32) (c_a1_steady_clipToOne : Nat → Int32) (c_a1_steady_clipToTwo : Nat → Int32) (c_a1_aimed_askers : Int32) (c_a1_aimed_places : Int32) (c_a1_aimed_seatBits : Int32) (c_a1_aimed_entries : Int32) (c_a1_aimed_gains : Nat → Int32) (c_a1_aimed_solvedGains : Nat → Int32) (c_a1_aimed_left : Nat → Int32) (c_a1_aimed_best : Nat → Int32) (c_a1_aimed_ways : Nat → Int32) (c_a1_aimed_next : Nat → Int32) (c_a1_aimed_firstOf : Nat → Int32) (c_a1_aimed_clipAll : Nat → Int32) (c_a1_aimed_clipToOne : Nat → Int32) (c_a1_aimed_clipToTwo : Nat → Int32) (c_a1_steadiness_most : Int32) (c_a1_steadiness_tight : Int32) (c_a1_steadiness_firsts : Nat → Int32) (c_a1_trade_gets : Nat → Int32) (c_a1_trade_servedIn : Nat → Int32) (c_a1_trade_holds : Nat → Int32) (c_a1_trade_pointsAt : Nat → Int32) (c_a1_trade_holderOf : Nat → Int32) (c_a1_ring_length : Int32) (c_a1_ring_members : Nat → Int32) (c_a1_ring_wants : Nat → Int32) (c_a1_lots_age : Int32) (c_a1_lots_runs : Int64) (c_a1_lots_wanting : Int32) (c_a1_lots_wanted : Int32) (c_a1_lots_answers : Nat → Int32) (c_a1_lots_memoKeys : Nat → Int64) (c_a1_lots_memos : Nat → Int32) (c_a1_eating_whole : Int64) (c_a1_eating_time : Int64) (c_a1_eating_eaten : Nat → Int64) (c_a1_eating_rest : Nat → Int64) (c_a1_eating_eatsAt : Nat → Int32) (c_a1_eating_eaters : Nat → Int32) (c_a1_row : Nat → Int32) (c_a2_askers : Int32) (c_a2_places : Int32) (c_a2_above : Int64) (c_a2_below : Int64) (c_a2_full : Int32) (c_a2_firsts : Int32) (c_a2_freed : Int32) (c_a2_whole : Int64) (c_a2_seats : Nat → Int32) (c_a2_wish : Nat → Int32) (c_a2_told : Nat → Int32) (c_a2_weight : Nat → Int32) (c_a2_count : Nat → Int64) (c_a2_found : Nat → Int32) (c_a2_cost : Nat → Int64) (c_a2_least : Nat → Int64) (c_a2_prefer : Nat → Int32) (c_a2_next : Nat → Int32) (c_a2_firstWorth : Nat → Int32) (c_a2_secondWorth : Nat → Int32) (c_a2_stand : Nat → Int64) (c_a2_served : Nat → Int32) (c_a2_points : Nat → Int32) (c_a2_can : Nat → Int32) (c_a2_ring : Nat → Int32) (c_a2_ways : Nat → Int32) (c_a2_leftOf : Nat → Int64) (c_a2_ate : Nat → Int64) (c_a2_eats : Nat → Int32) (v3 : Int32) : Option Int32 :=
    (rdI L c_a0 (v3 + 1)).bind fun t1 =>
    (rdI L c_a0 (v3 + 2)).bind fun t2 =>
    (f_X7_become N c_a1_board_askers c_a1_board_places c_a1_board_seats c_a1_board_wishes c_a1_aimed_askers c_a1_aimed_places c_a1_aimed_seatBits c_a1_aimed_entries c_a1_row c_a1_aimed_best c_a1_aimed_clipAll c_a1_aimed_clipToOne c_a1_aimed_clipToTwo c_a1_aimed_firstOf c_a1_aimed_gains c_a1_aimed_left c_a1_aimed_next c_a1_aimed_solvedGains c_a1_aimed_ways c_a1_all_slots c_a1_board_told c_a1_trade_gets c_a1_trade_holderOf c_a1_trade_holds c_a1_trade_pointsAt c_a1_trade_servedIn t1 t2).bind fun (r3, o4, o5, o6, o7, o8, o9, o10, o11, o12, o13, o14, o15, o16, o17, o18, o19, o20, o21, o22, o23, o24, o25) =>
    (rdI L c_a0 (v3 + 1)).bind fun t27 =>
    (rdI L c_a0 (v3 + 2)).bind fun t28 =>
    (f_X8_become N c_a2_askers c_a2_places c_a2_seats c_a2_wish c_a2_full c_a2_cost c_a2_found c_a2_least c_a2_points c_a2_served c_a2_told c_a2_weight t27 t28).bind fun (r29, o30, o31, o32, o33, o34, o35, o36, o37) =>
    (if r3 = r29 then
      k18 c_a1_above c_a1_below c_a1_board_askers c_a1_board_places c_a1_board_age c_a1_board_seats c_a1_board_wishes c_a1_board_likes o20 o19 c_a1_all_askers c_a1_all_places c_a1_all_seatBits c_a1_all_entries c_a1_all_gains c_a1_all_solvedGains c_a1_all_left c_a1_all_best c_a1_all_ways c_a1_all_next c_a1_all_firstOf c_a1_all_clipAll c_a1_all_clipToOne c_a1_all_clipToTwo c_a1_steady_askers c_a1_steady_places c_a1_steady_seatBits c_a1_steady_entries c_a1_steady_gains c_a1_steady_solvedGains c_a1_steady_left c_a1_steady_best c_a1_steady_ways c_a1_steady_next c_a1_steady_firstOf c_a1_steady_clipAll c_a1_steady_clipToOne c_a1_steady_clipToTwo o4 o5 o6 o7 o14 o17 o15 o9 o18 o16 o13 o10 o11 o12 c_a1_steadiness_most c_a1_steadiness_tight c_a1_steadiness_firsts o21 o25 o23 o24 o22 c_a1_ring_length c_a1_ring_members c_a1_ring_wants c_a1_lots_age c_a1_lots_runs c_a1_lots_wanting c_a1_lots_wanted c_a1_lots_answers c_a1_lots_memoKeys c_a1_lots_memos c_a1_eating_whole c_a1_eating_time c_a1_eating_eaten c_a1_eating_rest c_a1_eating_eatsAt c_a1_eating_eaters o8 c_a2_askers c_a2_places c_a2_above c_a2_below o30 c_a2_firsts c_a2_freed c_a2_whole c_a2_seats c_a2_wish o36 o37 c_a2_count o32 o31 o33 c_a2_prefer c_a2_next c_a2_firstWorth c_a2_secondWorth c_a2_stand o35 o34 c_a2_can c_a2_ring c_a2_ways c_a2_leftOf c_a2_ate c_a2_eats (v3 + 4)
    else
      some 0)
def f_L_law_386 (N : Nat) (L : Nat) (c_a0 : Nat → Int32) (k18 : Int64 → Int64 → Int32 → Int32 → Int32 → (Nat → Int32) → (Nat → Int32) → (Nat → Int32) → (Nat → Int32) → (Nat → Int32) → Int32 → Int32 → Int32 → Int32 → (Nat → Int32) → (Nat → Int32) → (Nat → Int32) → (Nat → Int32) → (Nat → Int32) → (Nat → Int32) → (Nat → Int32) → (Nat → Int32) → (Nat → Int32) → (Nat → Int32) → Int32 → Int32 → Int32 → Int32 → (Nat → Int32) → (Nat → Int32) → (Nat → Int32) → (Nat → Int32) → (Nat → Int32) → (Nat → Int32) → (Nat → Int32) → (Nat → Int32) → (Nat → Int32) → (Nat → Int32) → Int32 → Int32 → Int32 → Int32 → (Nat → Int32) → (Nat → Int32) → (Nat → Int32) → (Nat → Int32) → (Nat → Int32) → (Nat → Int32) → (Nat → Int32) → (Nat → Int32) → (Nat → Int32) → (Nat → Int32) → Int32 → Int32 → (Nat → Int32) → (Nat → Int32) → (Nat → Int32) → (Nat → Int32) → (Nat → Int32) → (Nat → Int32) → Int32 → (Nat → Int32) → (Nat → Int32) → Int32 → Int64 → Int32 → Int32 → (Nat → Int32) → (Nat → Int64) → (Nat → Int32) → Int64 → Int64 → (Nat → Int64) → (Nat → Int64) → (Nat → Int32) → (Nat → Int32) → (Nat → Int32) → Int32 → Int32 → Int64 → Int64 → Int32 → Int32 → Int32 → Int64 → (Nat → Int32) → (Nat → Int32) → (Nat → Int32) → (Nat → Int32) → (Nat → Int64) → (Nat → Int32) → (Nat → Int64) → (Nat → Int64) → (Nat → Int32) → (Nat → Int32) → (Nat → Int32) → (Nat → Int32) → (Nat → Int64) → (Nat → Int32) → (Nat → Int32) → (Nat → Int32) → (Nat → Int32) → (Nat → Int32) → (Nat → Int64) → (Nat → Int64) → (Nat → Int32) → Int32 → Option Int32) (c_a1_above : Int64) (c_a1_below : Int64) (c_a1_board_askers : Int32) (c_a1_board_places : Int32) (c_a1_board_age : Int32) (c_a1_board_seats : Nat → Int32) (c_a1_board_wishes : Nat → Int32) (c_a1_board_likes : Nat → Int32) (c_a1_board_told : Nat → Int32) (c_a1_all_slots : Nat → Int32) (c_a1_all_askers : Int32) (c_a1_all_places : Int32) (c_a1_all_seatBits : Int32) (c_a1_all_entries : Int32) (c_a1_all_gains : Nat → Int32) (c_a1_all_solvedGains : Nat → Int32) (c_a1_all_left : Nat → Int32) (c_a1_all_best : Nat → Int32) (c_a1_all_ways : Nat → Int32) (c_a1_all_next : Nat → Int32) (c_a1_all_firstOf : Nat → Int32) (c_a1_all_clipAll : Nat → Int32) (c_a1_all_clipToOne : Nat → Int32) (c_a1_all_clipToTwo : Nat → Int32) (c_a1_steady_askers : Int32) (c_a1_steady_places : Int32) (c_a1_steady_seatBits : Int32) (c_a1_steady_entries : Int32) (c_a1_steady_gains : Nat → Int32) (c_a1_steady_solvedGains : Nat → Int32) (c_a1_steady_left : Nat → Int32) (c_a1_steady_best : Nat → Int32) (c_a1_steady_ways : Nat → Int32) (c_a1_steady_next : Nat → Int32) (c_a1_steady_firstOf : Nat → Int32) (c_a1_steady_clipAll : Nat → Int32) (c_a1_steady_clipToOne : Nat → Int32) (c_a1_steady_clipToTwo : Nat → Int32) (c_a1_aimed_askers : Int32) (c_a1_aimed_places : Int32) (c_a1_aimed_seatBits : Int32) (c_a1_aimed_entries : Int32) (c_a1_aimed_gains : Nat → Int32) (c_a1_aimed_solvedGains : Nat → Int32) (c_a1_aimed_left : Nat → Int32) (c_a1_aimed_best : Nat → Int32) (c_a1_aimed_ways : Nat → Int32) (c_a1_aimed_next : Nat → Int32) (c_a1_aimed_firstOf : Nat → Int32) (c_a1_aimed_clipAll : Nat → Int32) (c_a1_aimed_clipToOne : Nat → Int32) (c_a1_aimed_clipToTwo : Nat → Int32) (c_a1_steadiness_most : Int32) (c_a1_steadiness_tight : Int32) (c_a1_steadiness_firsts : Nat → Int32) (c_a1_trade_gets : Nat → Int32) (c_a1_trade_servedIn : Nat → Int32) (c_a1_trade_holds : Nat → Int32) (c_a1_trade_pointsAt : Nat → Int32) (c_a1_trade_holderOf : Nat → Int32) (c_a1_ring_length : Int32) (c_a1_ring_members : Nat → Int32) (c_a1_ring_wants : Nat → Int32) (c_a1_lots_age : Int32) (c_a1_lots_runs : Int64) (c_a1_lots_wanting : Int32) (c_a1_lots_wanted : Int32) (c_a1_lots_answers : Nat → Int32) (c_a1_lots_memoKeys : Nat → Int64) (c_a1_lots_memos : Nat → Int32) (c_a1_eating_whole : Int64) (c_a1_eating_time : Int64) (c_a1_eating_eaten : Nat → Int64) (c_a1_eating_rest : Nat → Int64) (c_a1_eating_eatsAt : Nat → Int32) (c_a1_eating_eaters : Nat → Int32) (c_a1_row : Nat → Int32) (c_a2_askers : Int32) (c_a2_places : Int32) (c_a2_above : Int64) (c_a2_below : Int64) (c_a2_full : Int32) (c_a2_firsts : Int32) (c_a2_freed : Int32) (c_a2_whole : Int64) (c_a2_seats : Nat → Int32) (c_a2_wish : Nat → Int32) (c_a2_told : Nat → Int32) (c_a2_weight : Nat → Int32) (c_a2_count : Nat → Int64) (c_a2_found : Nat → Int32) (c_a2_cost : Nat → Int64) (c_a2_least : Nat → Int64) (c_a2_prefer : Nat → Int32) (c_a2_next : Nat → Int32) (c_a2_firstWorth : Nat → Int32) (c_a2_secondWorth : Nat → Int32) (c_a2_stand : Nat → Int64) (c_a2_served : Nat → Int32) (c_a2_points : Nat → Int32) (c_a2_can : Nat → Int32) (c_a2_ring : Nat → Int32) (c_a2_ways : Nat → Int32) (c_a2_leftOf : Nat → Int64) (c_a2_ate : Nat → Int64) (c_a2_eats : Nat → Int32) (v3 : Int32) : Option Int32 :=
    (rdI L c_a0 (v3 + 1)).bind fun t1 =>
    (rdI L c_a0 (v3 + 2)).bind fun t2 =>
    (rdI L c_a0 (v3 + 3)).bind fun t3 =>
    (f_X7_give N c_a1_board_askers c_a1_board_places c_a1_board_seats c_a1_board_wishes c_a1_board_told t1 t2 t3).bind fun (r4, o5) =>
    (rdI L c_a0 (v3 + 1)).bind fun t7 =>
    (rdI L c_a0 (v3 + 2)).bind fun t8 =>
    (rdI L c_a0 (v3 + 3)).bind fun t9 =>
    (f_X8_give N c_a2_askers c_a2_places c_a2_seats c_a2_wish c_a2_told t7 t8 t9).bind fun (r10, o11) =>
    (if r4 = r10 then
      k18 c_a1_above c_a1_below c_a1_board_askers c_a1_board_places c_a1_board_age c_a1_board_seats c_a1_board_wishes c_a1_board_likes o5 c_a1_all_slots c_a1_all_askers c_a1_all_places c_a1_all_seatBits c_a1_all_entries c_a1_all_gains c_a1_all_solvedGains c_a1_all_left c_a1_all_best c_a1_all_ways c_a1_all_next c_a1_all_firstOf c_a1_all_clipAll c_a1_all_clipToOne c_a1_all_clipToTwo c_a1_steady_askers c_a1_steady_places c_a1_steady_seatBits c_a1_steady_entries c_a1_steady_gains c_a1_steady_solvedGains c_a1_steady_left c_a1_steady_best c_a1_steady_ways c_a1_steady_next c_a1_steady_firstOf c_a1_steady_clipAll c_a1_steady_clipToOne c_a1_steady_clipToTwo c_a1_aimed_askers c_a1_aimed_places c_a1_aimed_seatBits c_a1_aimed_entries c_a1_aimed_gains c_a1_aimed_solvedGains c_a1_aimed_left c_a1_aimed_best c_a1_aimed_ways c_a1_aimed_next c_a1_aimed_firstOf c_a1_aimed_clipAll c_a1_aimed_clipToOne c_a1_aimed_clipToTwo c_a1_steadiness_most c_a1_steadiness_tight c_a1_steadiness_firsts c_a1_trade_gets c_a1_trade_servedIn c_a1_trade_holds c_a1_trade_pointsAt c_a1_trade_holderOf c_a1_ring_length c_a1_ring_members c_a1_ring_wants c_a1_lots_age c_a1_lots_runs c_a1_lots_wanting c_a1_lots_wanted c_a1_lots_answers c_a1_lots_memoKeys c_a1_lots_memos c_a1_eating_whole c_a1_eating_time c_a1_eating_eaten c_a1_eating_rest c_a1_eating_eatsAt c_a1_eating_eaters c_a1_row c_a2_askers c_a2_places c_a2_above c_a2_below c_a2_full c_a2_firsts c_a2_freed c_a2_whole c_a2_seats c_a2_wish o11 c_a2_weight c_a2_count c_a2_found c_a2_cost c_a2_least c_a2_prefer c_a2_next c_a2_firstWorth c_a2_secondWorth c_a2_stand c_a2_served c_a2_points c_a2_can c_a2_ring c_a2_ways c_a2_leftOf c_a2_ate c_a2_eats (v3 + 4)
    else
      some 0)
def f_L_law_323 (N : Nat) (L : Nat) (c_a0 : Nat → Int32) (k18 : Int64 → Int64 → Int32 → Int32 → Int32 → (Nat → Int32) → (Nat → Int32) → (Nat → Int32) → (Nat → Int32) → (Nat → Int32) → Int32 → Int32 → Int32 → Int32 → (Nat → Int32) → (Nat → Int32) → (Nat → Int32) → (Nat → Int32) → (Nat → Int32) → (Nat → Int32) → (Nat → Int32) → (Nat → Int32) → (Nat → Int32) → (Nat → Int32) → Int32 → Int32 → Int32 → Int32 → (Nat → Int32) → (Nat → Int32) → (Nat → Int32) → (Nat → Int32) → (Nat → Int32) → (Nat → Int32) → (Nat → Int32) → (Nat → Int32) → (Nat → Int32) → (Nat → Int32) → Int32 → Int32 → Int32 → Int32 → (Nat → Int32) → (Nat → Int32) → (Nat → Int32) → (Nat → Int32) → (Nat → Int32) → (Nat → Int32) → (Nat → Int32) → (Nat → Int32) → (Nat → Int32) → (Nat → Int32) → Int32 → Int32 → (Nat → Int32) → (Nat → Int32) → (Nat → Int32) → (Nat → Int32) → (Nat → Int32) → (Nat → Int32) → Int32 → (Nat → Int32) → (Nat → Int32) → Int32 → Int64 → Int32 → Int32 → (Nat → Int32) → (Nat → Int64) → (Nat → Int32) → Int64 → Int64 → (Nat → Int64) → (Nat → Int64) → (Nat → Int32) → (Nat → Int32) → (Nat → Int32) → Int32 → Int32 → Int64 → Int64 → Int32 → Int32 → Int32 → Int64 → (Nat → Int32) → (Nat → Int32) → (Nat → Int32) → (Nat → Int32) → (Nat → Int64) → (Nat → Int32) → (Nat → Int64) → (Nat → Int64) → (Nat → Int32) → (Nat → Int32) → (Nat → Int32) → (Nat → Int32) → (Nat → Int64) → (Nat → Int32) → (Nat → Int32) → (Nat → Int32) → (Nat → Int32) → (Nat → Int32) → (Nat → Int64) → (Nat → Int64) → (Nat → Int32) → Int32 → Option Int32) (c_a1_above : Int64) (c_a1_below : Int64) (c_a1_board_askers : Int32) (c_a1_board_places : Int32) (c_a1_board_age : Int32) (c_a1_board_seats : Nat → Int32) (c_a1_board_wishes : Nat → Int32) (c_a1_board_likes : Nat → Int32) (c_a1_board_told : Nat → Int32) (c_a1_all_slots : Nat → Int32) (c_a1_all_askers : Int32) (c_a1_all_places : Int32) (c_a1_all_seatBits : Int32) (c_a1_all_entries : Int32) (c_a1_all_gains : Nat → Int32) (c_a1_all_solvedGains : Nat → Int32) (c_a1_all_left : Nat → Int32) (c_a1_all_best : Nat → Int32) (c_a1_all_ways : Nat → Int32) (c_a1_all_next : Nat → Int32) (c_a1_all_firstOf : Nat → Int32) (c_a1_all_clipAll : Nat → Int32) (c_a1_all_clipToOne : Nat → Int32) (c_a1_all_clipToTwo : Nat → Int32) (c_a1_steady_askers : Int32) (c_a1_steady_places : Int32) (c_a1_steady_seatBits : Int32) (c_a1_steady_entries : Int32) (c_a1_steady_gains : Nat → Int32) (c_a1_steady_solvedGains : Nat → Int32) (c_a1_steady_left : Nat → Int32) (c_a1_steady_best : Nat → Int32) (c_a1_steady_ways : Nat → Int32) (c_a1_steady_next : Nat → Int32) (c_a1_steady_firstOf : Nat → Int32) (c_a1_steady_clipAll : Nat → Int32) (c_a1_steady_clipToOne : Nat → Int32) (c_a1_steady_clipToTwo : Nat → Int32) (c_a1_aimed_askers : Int32) (c_a1_aimed_places : Int32) (c_a1_aimed_seatBits : Int32) (c_a1_aimed_entries : Int32) (c_a1_aimed_gains : Nat → Int32) (c_a1_aimed_solvedGains : Nat → Int32) (c_a1_aimed_left : Nat → Int32) (c_a1_aimed_best : Nat → Int32) (c_a1_aimed_ways : Nat → Int32) (c_a1_aimed_next : Nat → Int32) (c_a1_aimed_firstOf : Nat → Int32) (c_a1_aimed_clipAll : Nat → Int32) (c_a1_aimed_clipToOne : Nat → Int32) (c_a1_aimed_clipToTwo : Nat → Int32) (c_a1_steadiness_most : Int32) (c_a1_steadiness_tight : Int32) (c_a1_steadiness_firsts : Nat → Int32) (c_a1_trade_gets : Nat → Int32) (c_a1_trade_servedIn : Nat → Int32) (c_a1_trade_holds : Nat → Int32) (c_a1_trade_pointsAt : Nat → Int32) (c_a1_trade_holderOf : Nat → Int32) (c_a1_ring_length : Int32) (c_a1_ring_members : Nat → Int32) (c_a1_ring_wants : Nat → Int32) (c_a1_lots_age : Int32) (c_a1_lots_runs : Int64) (c_a1_lots_wanting : Int32) (c_a1_lots_wanted : Int32) (c_a1_lots_answers : Nat → Int32) (c_a1_lots_memoKeys : Nat → Int64) (c_a1_lots_memos : Nat → Int32) (c_a1_eating_whole : Int64) (c_a1_eating_time : Int64) (c_a1_eating_eaten : Nat → Int64) (c_a1_eating_rest : Nat → Int64) (c_a1_eating_eatsAt : Nat → Int32) (c_a1_eating_eaters : Nat → Int32) (c_a1_row : Nat → Int32) (c_a2_askers : Int32) (c_a2_places : Int32) (c_a2_above : Int64) (c_a2_below : Int64) (c_a2_full : Int32) (c_a2_firsts : Int32) (c_a2_freed : Int32) (c_a2_whole : Int64) (c_a2_seats : Nat → Int32) (c_a2_wish : Nat → Int32) (c_a2_told : Nat → Int32) (c_a2_weight : Nat → Int32) (c_a2_count : Nat → Int64) (c_a2_found : Nat → Int32) (c_a2_cost : Nat → Int64) (c_a2_least : Nat → Int64) (c_a2_prefer : Nat → Int32) (c_a2_next : Nat → Int32) (c_a2_firstWorth : Nat → Int32) (c_a2_secondWorth : Nat → Int32) (c_a2_stand : Nat → Int64) (c_a2_served : Nat → Int32) (c_a2_points : Nat → Int32) (c_a2_can : Nat → Int32) (c_a2_ring : Nat → Int32) (c_a2_ways : Nat → Int32) (c_a2_leftOf : Nat → Int64) (c_a2_ate : Nat → Int64) (c_a2_eats : Nat → Int32) (v3 : Int32) : Option Int32 :=
    (rdI L c_a0 (v3 + 1)).bind fun t1 =>
    (rdI L c_a0 (v3 + 2)).bind fun t2 =>
    (rdI L c_a0 (v3 + 3)).bind fun t3 =>
    (f_X7_givingAt N c_a1_board_askers c_a1_board_places c_a1_board_seats c_a1_board_wishes c_a1_all_askers c_a1_all_places c_a1_all_seatBits c_a1_all_entries c_a1_row c_a1_all_best c_a1_all_clipAll c_a1_all_clipToOne c_a1_all_clipToTwo c_a1_all_firstOf c_a1_all_gains c_a1_all_left c_a1_all_next c_a1_all_slots c_a1_all_solvedGains c_a1_all_ways ((t1.toInt64 <<< ((32 : Int32).toInt64 &&& 63)) ||| (t2.toInt64 &&& (4294967295 : Int64))) t3).bind fun (r4, o5, o6, o7, o8, o9, o10, o11, o12, o13, o14, o15, o16, o17, o18, o19, o20) =>
    (rdI L c_a0 (v3 + 1)).bind fun t22 =>
    (rdI L c_a0 (v3 + 2)).bind fun t23 =>
    (rdI L c_a0 (v3 + 3)).bind fun t24 =>
    (f_X8_givingAt N c_a2_askers c_a2_places c_a2_seats c_a2_wish c_a2_full c_a2_count c_a2_found c_a2_weight ((t22.toInt64 <<< ((32 : Int32).toInt64 &&& 63)) ||| (t23.toInt64 &&& (4294967295 : Int64))) t24).bind fun (r25, o26, o27, o28, o29) =>
    (if r4 = r25 then
      k18 c_a1_above c_a1_below c_a1_board_askers c_a1_board_places c_a1_board_age c_a1_board_seats c_a1_board_wishes c_a1_board_likes c_a1_board_told o18 o5 o6 o7 o8 o15 o19 o16 o10 o20 o17 o14 o11 o12 o13 c_a1_steady_askers c_a1_steady_places c_a1_steady_seatBits c_a1_steady_entries c_a1_steady_gains c_a1_steady_solvedGains c_a1_steady_left c_a1_steady_best c_a1_steady_ways c_a1_steady_next c_a1_steady_firstOf c_a1_steady_clipAll c_a1_steady_clipToOne c_a1_steady_clipToTwo c_a1_aimed_askers c_a1_aimed_places c_a1_aimed_seatBits c_a1_aimed_entries c_a1_aimed_gains c_a1_aimed_solvedGains c_a1_aimed_left c_a1_aimed_best c_a1_aimed_ways c_a1_aimed_next c_a1_aimed_firstOf c_a1_aimed_clipAll c_a1_aimed_clipToOne c_a1_aimed_clipToTwo c_a1_steadiness_most c_a1_steadiness_tight c_a1_steadiness_firsts c_a1_trade_gets c_a1_trade_servedIn c_a1_trade_holds c_a1_trade_pointsAt c_a1_trade_holderOf c_a1_ring_length c_a1_ring_members c_a1_ring_wants c_a1_lots_age c_a1_lots_runs c_a1_lots_wanting c_a1_lots_wanted c_a1_lots_answers c_a1_lots_memoKeys c_a1_lots_memos c_a1_eating_whole c_a1_eating_time c_a1_eating_eaten c_a1_eating_rest c_a1_eating_eatsAt c_a1_eating_eaters o9 c_a2_askers c_a2_places c_a2_above c_a2_below o26 c_a2_firsts c_a2_freed c_a2_whole c_a2_seats c_a2_wish c_a2_told o29 o27 o28 c_a2_cost c_a2_least c_a2_prefer c_a2_next c_a2_firstWorth c_a2_secondWorth c_a2_stand c_a2_served c_a2_points c_a2_can c_a2_ring c_a2_ways c_a2_leftOf c_a2_ate c_a2_eats (v3 + 4)
    else
      some 0)
def f_L_law_309 (N : Nat) (L : Nat) (c_a0 : Nat → Int32) (k18 : Int64 → Int64 → Int32 → Int32 → Int32 → (Nat → Int32) → (Nat → Int32) → (Nat → Int32) → (Nat → Int32) → (Nat → Int32) → Int32 → Int32 → Int32 → Int32 → (Nat → Int32) → (Nat → Int32) → (Nat → Int32) → (Nat → Int32) → (Nat → Int32) → (Nat → Int32) → (Nat → Int32) → (Nat → Int32) → (Nat → Int32) → (Nat → Int32) → Int32 → Int32 → Int32 → Int32 → (Nat → Int32) → (Nat → Int32) → (Nat → Int32) → (Nat → Int32) → (Nat → Int32) → (Nat → Int32) → (Nat → Int32) → (Nat → Int32) → (Nat → Int32) → (Nat → Int32) → Int32 → Int32 → Int32 → Int32 → (Nat → Int32) → (Nat → Int32) → (Nat → Int32) → (Nat → Int32) → (Nat → Int32) → (Nat → Int32) → (Nat → Int32) → (Nat → Int32) → (Nat → Int32) → (Nat → Int32) → Int32 → Int32 → (Nat → Int32) → (Nat → Int32) → (Nat → Int32) → (Nat → Int32) → (Nat → Int32) → (Nat → Int32) → Int32 → (Nat → Int32) → (Nat → Int32) → Int32 → Int64 → Int32 → Int32 → (Nat → Int32) → (Nat → Int64) → (Nat → Int32) → Int64 → Int64 → (Nat → Int64) → (Nat → Int64) → (Nat → Int32) → (Nat → Int32) → (Nat → Int32) → Int32 → Int32 → Int64 → Int64 → Int32 → Int32 → Int32 → Int64 → (Nat → Int32) → (Nat → Int32) → (Nat → Int32) → (Nat → Int32) → (Nat → Int64) → (Nat → Int32) → (Nat → Int64) → (Nat → Int64) → (Nat → Int32) → (Nat → Int32) → (Nat → Int32) → (Nat → Int32) → (Nat → Int64) → (Nat → Int32) → (Nat → Int32) → (Nat → Int32) → (Nat → Int32) → (Nat → Int32) → (Nat → Int64) → (Nat → Int64) → (Nat → Int32) → Int32 → Option Int32) (c_a1_above : Int64) (c_a1_below : Int64) (c_a1_board_askers : Int32) (c_a1_board_places : Int32) (c_a1_board_age : Int32) (c_a1_board_seats : Nat → Int32) (c_a1_board_wishes : Nat → Int32) (c_a1_board_likes : Nat → Int32) (c_a1_board_told : Nat → Int32) (c_a1_all_slots : Nat → Int32) (c_a1_all_askers : Int32) (c_a1_all_places : Int32) (c_a1_all_seatBits : Int32) (c_a1_all_entries : Int32) (c_a1_all_gains : Nat → Int32) (c_a1_all_solvedGains : Nat → Int32) (c_a1_all_left : Nat → Int32) (c_a1_all_best : Nat → Int32) (c_a1_all_ways : Nat → Int32) (c_a1_all_next : Nat → Int32) (c_a1_all_firstOf : Nat → Int32) (c_a1_all_clipAll : Nat → Int32) (c_a1_all_clipToOne : Nat → Int32) (c_a1_all_clipToTwo : Nat → Int32) (c_a1_steady_askers : Int32) (c_a1_steady_places : Int32) (c_a1_steady_seatBits : Int32) (c_a1_steady_entries : Int32) (c_a1_steady_gains : Nat → Int32) (c_a1_steady_solvedGains : Nat → Int32) (c_a1_steady_left : Nat → Int32) (c_a1_steady_best : Nat → Int32) (c_a1_steady_ways : Nat → Int32) (c_a1_steady_next : Nat → Int32) (c_a1_steady_firstOf : Nat → Int32) (c_a1_steady_clipAll : Nat → Int32) (c_a1_steady_clipToOne : Nat → Int32) (c_a1_steady_clipToTwo : Nat → Int32) (c_a1_aimed_askers : Int32) (c_a1_aimed_places : Int32) (c_a1_aimed_seatBits : Int32) (c_a1_aimed_entries : Int32) (c_a1_aimed_gains : Nat → Int32) (c_a1_aimed_solvedGains : Nat → Int32) (c_a1_aimed_left : Nat → Int32) (c_a1_aimed_best : Nat → Int32) (c_a1_aimed_ways : Nat → Int32) (c_a1_aimed_next : Nat → Int32) (c_a1_aimed_firstOf : Nat → Int32) (c_a1_aimed_clipAll : Nat → Int32) (c_a1_aimed_clipToOne : Nat → Int32) (c_a1_aimed_clipToTwo : Nat → Int32) (c_a1_steadiness_most : Int32) (c_a1_steadiness_tight : Int32) (c_a1_steadiness_firsts : Nat → Int32) (c_a1_trade_gets : Nat → Int32) (c_a1_trade_servedIn : Nat → Int32) (c_a1_trade_holds : Nat → Int32) (c_a1_trade_pointsAt : Nat → Int32) (c_a1_trade_holderOf : Nat → Int32) (c_a1_ring_length : Int32) (c_a1_ring_members : Nat → Int32) (c_a1_ring_wants : Nat → Int32) (c_a1_lots_age : Int32) (c_a1_lots_runs : Int64) (c_a1_lots_wanting : Int32) (c_a1_lots_wanted : Int32) (c_a1_lots_answers : Nat → Int32) (c_a1_lots_memoKeys : Nat → Int64) (c_a1_lots_memos : Nat → Int32) (c_a1_eating_whole : Int64) (c_a1_eating_time : Int64) (c_a1_eating_eaten : Nat → Int64) (c_a1_eating_rest : Nat → Int64) (c_a1_eating_eatsAt : Nat → Int32) (c_a1_eating_eaters : Nat → Int32) (c_a1_row : Nat → Int32) (c_a2_askers : Int32) (c_a2_places : Int32) (c_a2_above : Int64) (c_a2_below : Int64) (c_a2_full : Int32) (c_a2_firsts : Int32) (c_a2_freed : Int32) (c_a2_whole : Int64) (c_a2_seats : Nat → Int32) (c_a2_wish : Nat → Int32) (c_a2_told : Nat → Int32) (c_a2_weight : Nat → Int32) (c_a2_count : Nat → Int64) (c_a2_found : Nat → Int32) (c_a2_cost : Nat → Int64) (c_a2_least : Nat → Int64) (c_a2_prefer : Nat → Int32) (c_a2_next : Nat → Int32) (c_a2_firstWorth : Nat → Int32) (c_a2_secondWorth : Nat → Int32) (c_a2_stand : Nat → Int64) (c_a2_served : Nat → Int32) (c_a2_points : Nat → Int32) (c_a2_can : Nat → Int32) (c_a2_ring : Nat → Int32) (c_a2_ways : Nat → Int32) (c_a2_leftOf : Nat → Int64) (c_a2_ate : Nat → Int64) (c_a2_eats : Nat → Int32) (v3 : Int32) : Option Int32 :=
    (f_X7_givings N c_a1_board_askers c_a1_board_places c_a1_board_seats c_a1_board_wishes c_a1_all_askers c_a1_all_places c_a1_all_seatBits c_a1_all_entries c_a1_all_best c_a1_all_clipAll c_a1_all_clipToOne c_a1_all_clipToTwo c_a1_all_firstOf c_a1_all_gains c_a1_all_left c_a1_all_next c_a1_all_slots c_a1_all_solvedGains c_a1_all_ways).bind fun (r1, o2, o3, o4, o5, o6, o7, o8, o9, o10, o11, o12, o13, o14, o15, o16) =>
    (f_X8_givings N c_a2_askers c_a2_places c_a2_seats c_a2_wish c_a2_full c_a2_count c_a2_weight).bind fun (r18, o19, o20, o21) =>
    (if r1 = r18 then
      k18 c_a1_above c_a1_below c_a1_board_askers c_a1_board_places c_a1_board_age c_a1_board_seats c_a1_board_wishes c_a1_board_likes c_a1_board_told o14 o2 o3 o4 o5 o11 o15 o12 o6 o16 o13 o10 o7 o8 o9 c_a1_steady_askers c_a1_steady_places c_a1_steady_seatBits c_a1_steady_entries c_a1_steady_gains c_a1_steady_solvedGains c_a1_steady_left c_a1_steady_best c_a1_steady_ways c_a1_steady_next c_a1_steady_firstOf c_a1_steady_clipAll c_a1_steady_clipToOne c_a1_steady_clipToTwo c_a1_aimed_askers c_a1_aimed_places c_a1_aimed_seatBits c_a1_aimed_entries c_a1_aimed_gains c_a1_aimed_solvedGains c_a1_aimed_left c_a1_aimed_best c_a1_aimed_ways c_a1_aimed_next c_a1_aimed_firstOf c_a1_aimed_clipAll c_a1_aimed_clipToOne c_a1_aimed_clipToTwo c_a1_steadiness_most c_a1_steadiness_tight c_a1_steadiness_firsts c_a1_trade_gets c_a1_trade_servedIn c_a1_trade_holds c_a1_trade_pointsAt c_a1_trade_holderOf c_a1_ring_length c_a1_ring_members c_a1_ring_wants c_a1_lots_age c_a1_lots_runs c_a1_lots_wanting c_a1_lots_wanted c_a1_lots_answers c_a1_lots_memoKeys c_a1_lots_memos c_a1_eating_whole c_a1_eating_time c_a1_eating_eaten c_a1_eating_rest c_a1_eating_eatsAt c_a1_eating_eaters c_a1_row c_a2_askers c_a2_places c_a2_above c_a2_below o19 c_a2_firsts c_a2_freed c_a2_whole c_a2_seats c_a2_wish c_a2_told o21 o20 c_a2_found c_a2_cost c_a2_least c_a2_prefer c_a2_next c_a2_firstWorth c_a2_secondWorth c_a2_stand c_a2_served c_a2_points c_a2_can c_a2_ring c_a2_ways c_a2_leftOf c_a2_ate c_a2_eats (v3 + 4)
    else
      some 0)
def f_L_law_276 (N : Nat) (L : Nat) (c_a0 : Nat → Int32) (k18 : Int64 → Int64 → Int32 → Int32 → Int32 → (Nat → Int32) → (Nat → Int32) → (Nat → Int32) → (Nat → Int32) → (Nat → Int32) → Int32 → Int32 → Int32 → Int32 → (Nat → Int32) → (Nat → Int32) → (Nat → Int32) → (Nat → Int32) → (Nat → Int32) → (Nat → Int32) → (Nat → Int32) → (Nat → Int32) → (Nat → Int32) → (Nat → Int32) → Int32 → Int32 → Int32 → Int32 → (Nat → Int32) → (Nat → Int32) → (Nat → Int32) → (Nat → Int32) → (Nat → Int32) → (Nat → Int32) → (Nat → Int32) → (Nat → Int32) → (Nat → Int32) → (Nat → Int32) → Int32 → Int32 → Int32 → Int32 → (Nat → Int32) → (Nat → Int32) → (Nat → Int32) → (Nat → Int32) → (Nat → Int32) → (Nat → Int32) → (Nat → Int32) → (Nat → Int32) → (Nat → Int32) → (Nat → Int32) → Int32 → Int32 → (Nat → Int32) → (Nat → Int32) → (Nat → Int32) → (Nat → Int32) → (Nat → Int32) → (Nat → Int32) → Int32 → (Nat → Int32) → (Nat → Int32) → Int32 → Int64 → Int32 → Int32 → (Nat → Int32) → (Nat → Int64) → (Nat → Int32) → Int64 → Int64 → (Nat → Int64) → (Nat → Int64) → (Nat → Int32) → (Nat → Int32) → (Nat → Int32) → Int32 → Int32 → Int64 → Int64 → Int32 → Int32 → Int32 → Int64 → (Nat → Int32) → (Nat → Int32) → (Nat → Int32) → (Nat → Int32) → (Nat → Int64) → (Nat → Int32) → (Nat → Int64) → (Nat → Int64) → (Nat → Int32) → (Nat → Int32) → (Nat → Int32) → (Nat → Int32) → (Nat → Int64) → (Nat → Int32) → (Nat → Int32) → (Nat → Int32) → (Nat → Int32) → (Nat → Int32) → (Nat → Int64) → (Nat → Int64) → (Nat → Int32) → Int32 → Option Int32) (c_a1_above : Int64) (c_a1_below : Int64) (c_a1_board_askers : Int32) (c_a1_board_places : Int32) (c_a1_board_age : Int32) (c_a1_board_seats : Nat → Int32) (c_a1_board_wishes : Nat → Int32) (c_a1_board_likes : Nat → Int32) (c_a1_board_told : Nat → Int32) (c_a1_all_slots : Nat → Int32) (c_a1_all_askers : Int32) (c_a1_all_places : Int32) (c_a1_all_seatBits : Int32) (c_a1_all_entries : Int32) (c_a1_all_gains : Nat → Int32) (c_a1_all_solvedGains : Nat → Int32) (c_a1_all_left : Nat → Int32) (c_a1_all_best : Nat → Int32) (c_a1_all_ways : Nat → Int32) (c_a1_all_next : Nat → Int32) (c_a1_all_firstOf : Nat → Int32) (c_a1_all_clipAll : Nat → Int32) (c_a1_all_clipToOne : Nat → Int32) (c_a1_all_clipToTwo : Nat → Int32) (c_a1_steady_askers : Int32) (c_a1_steady_places : Int32) (c_a1_steady_seatBits : Int32) (c_a1_steady_entries : Int32) (c_a1_steady_gains : Nat → Int32) (c_a1_steady_solvedGains : Nat → Int32) (c_a1_steady_left : Nat → Int32) (c_a1_steady_best : Nat → Int32) (c_a1_steady_ways : Nat → Int32) (c_a1_steady_next : Nat → Int32) (c_a1_steady_firstOf : Nat → Int32) (c_a1_steady_clipAll : Nat → Int32) (c_a1_steady_clipToOne : Nat → Int32) (c_a1_steady_clipToTwo : Nat → Int32) (c_a1_aimed_askers : Int32) (c_a1_aimed_places : Int32) (c_a1_aimed_seatBits : Int32) (c_a1_aimed_entries : Int32) (c_a1_aimed_gains : Nat → Int32) (c_a1_aimed_solvedGains : Nat → Int32) (c_a1_aimed_left : Nat → Int32) (c_a1_aimed_best : Nat → Int32) (c_a1_aimed_ways : Nat → Int32) (c_a1_aimed_next : Nat → Int32) (c_a1_aimed_firstOf : Nat → Int32) (c_a1_aimed_clipAll : Nat → Int32) (c_a1_aimed_clipToOne : Nat → Int32) (c_a1_aimed_clipToTwo : Nat → Int32) (c_a1_steadiness_most : Int32) (c_a1_steadiness_tight : Int32) (c_a1_steadiness_firsts : Nat → Int32) (c_a1_trade_gets : Nat → Int32) (c_a1_trade_servedIn : Nat → Int32) (c_a1_trade_holds : Nat → Int32) (c_a1_trade_pointsAt : Nat → Int32) (c_a1_trade_holderOf : Nat → Int32) (c_a1_ring_length : Int32) (c_a1_ring_members : Nat → Int32) (c_a1_ring_wants : Nat → Int32) (c_a1_lots_age : Int32) (c_a1_lots_runs : Int64) (c_a1_lots_wanting : Int32) (c_a1_lots_wanted : Int32) (c_a1_lots_answers : Nat → Int32) (c_a1_lots_memoKeys : Nat → Int64) (c_a1_lots_memos : Nat → Int32) (c_a1_eating_whole : Int64) (c_a1_eating_time : Int64) (c_a1_eating_eaten : Nat → Int64) (c_a1_eating_rest : Nat → Int64) (c_a1_eating_eatsAt : Nat → Int32) (c_a1_eating_eaters : Nat → Int32) (c_a1_row : Nat → Int32) (c_a2_askers : Int32) (c_a2_places : Int32) (c_a2_above : Int64) (c_a2_below : Int64) (c_a2_full : Int32) (c_a2_firsts : Int32) (c_a2_freed : Int32) (c_a2_whole : Int64) (c_a2_seats : Nat → Int32) (c_a2_wish : Nat → Int32) (c_a2_told : Nat → Int32) (c_a2_weight : Nat → Int32) (c_a2_count : Nat → Int64) (c_a2_found : Nat → Int32) (c_a2_cost : Nat → Int64) (c_a2_least : Nat → Int64) (c_a2_prefer : Nat → Int32) (c_a2_next : Nat → Int32) (c_a2_firstWorth : Nat → Int32) (c_a2_secondWorth : Nat → Int32) (c_a2_stand : Nat → Int64) (c_a2_served : Nat → Int32) (c_a2_points : Nat → Int32) (c_a2_can : Nat → Int32) (c_a2_ring : Nat → Int32) (c_a2_ways : Nat → Int32) (c_a2_leftOf : Nat → Int64) (c_a2_ate : Nat → Int64) (c_a2_eats : Nat → Int32) (v3 : Int32) : Option Int32 :=
    (rdI L c_a0 (v3 + 1)).bind fun t1 =>
    (rdI L c_a0 (v3 + 2)).bind fun t2 =>
    (f_X7_worth N c_a1_board_askers c_a1_board_places c_a1_board_wishes t1 t2).bind fun r3 =>
    (rdI L c_a0 (v3 + 1)).bind fun t5 =>
    (rdI L c_a0 (v3 + 2)).bind fun t6 =>
    (f_X8_worth N c_a2_askers c_a2_places c_a2_wish t5 t6).bind fun r7 =>
    (if r3 = r7 then
      k18 c_a1_above c_a1_below c_a1_board_askers c_a1_board_places c_a1_board_age c_a1_board_seats c_a1_board_wishes c_a1_board_likes c_a1_board_told c_a1_all_slots c_a1_all_askers c_a1_all_places c_a1_all_seatBits c_a1_all_entries c_a1_all_gains c_a1_all_solvedGains c_a1_all_left c_a1_all_best c_a1_all_ways c_a1_all_next c_a1_all_firstOf c_a1_all_clipAll c_a1_all_clipToOne c_a1_all_clipToTwo c_a1_steady_askers c_a1_steady_places c_a1_steady_seatBits c_a1_steady_entries c_a1_steady_gains c_a1_steady_solvedGains c_a1_steady_left c_a1_steady_best c_a1_steady_ways c_a1_steady_next c_a1_steady_firstOf c_a1_steady_clipAll c_a1_steady_clipToOne c_a1_steady_clipToTwo c_a1_aimed_askers c_a1_aimed_places c_a1_aimed_seatBits c_a1_aimed_entries c_a1_aimed_gains c_a1_aimed_solvedGains c_a1_aimed_left c_a1_aimed_best c_a1_aimed_ways c_a1_aimed_next c_a1_aimed_firstOf c_a1_aimed_clipAll c_a1_aimed_clipToOne c_a1_aimed_clipToTwo c_a1_steadiness_most c_a1_steadiness_tight c_a1_steadiness_firsts c_a1_trade_gets c_a1_trade_servedIn c_a1_trade_holds c_a1_trade_pointsAt c_a1_trade_holderOf c_a1_ring_length c_a1_ring_members c_a1_ring_wants c_a1_lots_age c_a1_lots_runs c_a1_lots_wanting c_a1_lots_wanted c_a1_lots_answers c_a1_lots_memoKeys c_a1_lots_memos c_a1_eating_whole c_a1_eating_time c_a1_eating_eaten c_a1_eating_rest c_a1_eating_eatsAt c_a1_eating_eaters c_a1_row c_a2_askers c_a2_places c_a2_above c_a2_below c_a2_full c_a2_firsts c_a2_freed c_a2_whole c_a2_seats c_a2_wish c_a2_told c_a2_weight c_a2_count c_a2_found c_a2_cost c_a2_least c_a2_prefer c_a2_next c_a2_firstWorth c_a2_secondWorth c_a2_stand c_a2_served c_a2_points c_a2_can c_a2_ring c_a2_ways c_a2_leftOf c_a2_ate c_a2_eats (v3 + 4)
    else
      some 0)
def f_L_law_233 (N : Nat) (L : Nat) (c_a0 : Nat → Int32) (k18 : Int64 → Int64 → Int32 → Int32 → Int32 → (Nat → Int32) → (Nat → Int32) → (Nat → Int32) → (Nat → Int32) → (Nat → Int32) → Int32 → Int32 → Int32 → Int32 → (Nat → Int32) → (Nat → Int32) → (Nat → Int32) → (Nat → Int32) → (Nat → Int32) → (Nat → Int32) → (Nat → Int32) → (Nat → Int32) → (Nat → Int32) → (Nat → Int32) → Int32 → Int32 → Int32 → Int32 → (Nat → Int32) → (Nat → Int32) → (Nat → Int32) → (Nat → Int32) → (Nat → Int32) → (Nat → Int32) → (Nat → Int32) → (Nat → Int32) → (Nat → Int32) → (Nat → Int32) → Int32 → Int32 → Int32 → Int32 → (Nat → Int32) → (Nat → Int32) → (Nat → Int32) → (Nat → Int32) → (Nat → Int32) → (Nat → Int32) → (Nat → Int32) → (Nat → Int32) → (Nat → Int32) → (Nat → Int32) → Int32 → Int32 → (Nat → Int32) → (Nat → Int32) → (Nat → Int32) → (Nat → Int32) → (Nat → Int32) → (Nat → Int32) → Int32 → (Nat → Int32) → (Nat → Int32) → Int32 → Int64 → Int32 → Int32 → (Nat → Int32) → (Nat → Int64) → (Nat → Int32) → Int64 → Int64 → (Nat → Int64) → (Nat → Int64) → (Nat → Int32) → (Nat → Int32) → (Nat → Int32) → Int32 → Int32 → Int64 → Int64 → Int32 → Int32 → Int32 → Int64 → (Nat → Int32) → (Nat → Int32) → (Nat → Int32) → (Nat → Int32) → (Nat → Int64) → (Nat → Int32) → (Nat → Int64) → (Nat → Int64) → (Nat → Int32) → (Nat → Int32) → (Nat → Int32) → (Nat → Int32) → (Nat → Int64) → (Nat → Int32) → (Nat → Int32) → (Nat → Int32) → (Nat → Int32) → (Nat → Int32) → (Nat → Int64) → (Nat → Int64) → (Nat → Int32) → Int32 → Option Int32) (c_a1_above : Int64) (c_a1_below : Int64) (c_a1_board_askers : Int32) (c_a1_board_places : Int32) (c_a1_board_age : Int32) (c_a1_board_seats : Nat → Int32) (c_a1_board_wishes : Nat → Int32) (c_a1_board_likes : Nat → Int32) (c_a1_board_told : Nat → Int32) (c_a1_all_slots : Nat → Int32) (c_a1_all_askers : Int32) (c_a1_all_places : Int32) (c_a1_all_seatBits : Int32) (c_a1_all_entries : Int32) (c_a1_all_gains : Nat → Int32) (c_a1_all_solvedGains : Nat → Int32) (c_a1_all_left : Nat → Int32) (c_a1_all_best : Nat → Int32) (c_a1_all_ways : Nat → Int32) (c_a1_all_next : Nat → Int32) (c_a1_all_firstOf : Nat → Int32) (c_a1_all_clipAll : Nat → Int32) (c_a1_all_clipToOne : Nat → Int32) (c_a1_all_clipToTwo : Nat → Int32) (c_a1_steady_askers : Int32) (c_a1_steady_places : Int32) (c_a1_steady_seatBits : Int32) (c_a1_steady_entries : Int32) (c_a1_steady_gains : Nat → Int32) (c_a1_steady_solvedGains : Nat → Int32) (c_a1_steady_left : Nat → Int32) (c_a1_steady_best : Nat → Int32) (c_a1_steady_ways : Nat → Int32) (c_a1_steady_next : Nat → Int32) (c_a1_steady_firstOf : Nat → Int32) (c_a1_steady_clipAll : Nat → Int32) (c_a1_steady_clipToOne : Nat → Int32) (c_a1_steady_clipToTwo : Nat → Int32) (c_a1_aimed_askers : Int32) (c_a1_aimed_places : Int32) (c_a1_aimed_seatBits : Int32) (c_a1_aimed_entries : Int32) (c_a1_aimed_gains : Nat → Int32) (c_a1_aimed_solvedGains : Nat → Int32) (c_a1_aimed_left : Nat → Int32) (c_a1_aimed_best : Nat → Int32) (c_a1_aimed_ways : Nat → Int32) (c_a1_aimed_next : Nat → Int32) (c_a1_aimed_firstOf : Nat → Int32) (c_a1_aimed_clipAll : Nat → Int32) (c_a1_aimed_clipToOne : Nat → Int32) (c_a1_aimed_clipToTwo : Nat → Int32) (c_a1_steadiness_most : Int32) (c_a1_steadiness_tight : Int32) (c_a1_steadiness_firsts : Nat → Int32) (c_a1_trade_gets : Nat → Int32) (c_a1_trade_servedIn : Nat → Int32) (c_a1_trade_holds : Nat → Int32) (c_a1_trade_pointsAt : Nat → Int32) (c_a1_trade_holderOf : Nat → Int32) (c_a1_ring_length : Int32) (c_a1_ring_members : Nat → Int32) (c_a1_ring_wants : Nat → Int32) (c_a1_lots_age : Int32) (c_a1_lots_runs : Int64) (c_a1_lots_wanting : Int32) (c_a1_lots_wanted : Int32) (c_a1_lots_answers : Nat → Int32) (c_a1_lots_memoKeys : Nat → Int64) (c_a1_lots_memos : Nat → Int32) (c_a1_eating_whole : Int64) (c_a1_eating_time : Int64) (c_a1_eating_eaten : Nat → Int64) (c_a1_eating_rest : Nat → Int64) (c_a1_eating_eatsAt : Nat → Int32) (c_a1_eating_eaters : Nat → Int32) (c_a1_row : Nat → Int32) (c_a2_askers : Int32) (c_a2_places : Int32) (c_a2_above : Int64) (c_a2_below : Int64) (c_a2_full : Int32) (c_a2_firsts : Int32) (c_a2_freed : Int32) (c_a2_whole : Int64) (c_a2_seats : Nat → Int32) (c_a2_wish : Nat → Int32) (c_a2_told : Nat → Int32) (c_a2_weight : Nat → Int32) (c_a2_count : Nat → Int64) (c_a2_found : Nat → Int32) (c_a2_cost : Nat → Int64) (c_a2_least : Nat → Int64) (c_a2_prefer : Nat → Int32) (c_a2_next : Nat → Int32) (c_a2_firstWorth : Nat → Int32) (c_a2_secondWorth : Nat → Int32) (c_a2_stand : Nat → Int64) (c_a2_served : Nat → Int32) (c_a2_points : Nat → Int32) (c_a2_can : Nat → Int32) (c_a2_ring : Nat → Int32) (c_a2_ways : Nat → Int32) (c_a2_leftOf : Nat → Int64) (c_a2_ate : Nat → Int64) (c_a2_eats : Nat → Int32) (v3 : Int32) : Option Int32 :=
    (rdI L c_a0 (v3 + 1)).bind fun t1 =>
    (rdI L c_a0 (v3 + 2)).bind fun t2 =>
    (rdI L c_a0 (v3 + 3)).bind fun t3 =>
    (f_X7_wish N c_a1_board_askers c_a1_board_places c_a1_board_age c_a1_board_likes c_a1_board_told c_a1_board_wishes t1 t2 t3).bind fun (r4, o5, o6, o7, o8) =>
    (rdI L c_a0 (v3 + 1)).bind fun t10 =>
    (rdI L c_a0 (v3 + 2)).bind fun t11 =>
    (rdI L c_a0 (v3 + 3)).bind fun t12 =>
    (f_X8_wish N c_a2_askers c_a2_places c_a2_told c_a2_wish t10 t11 t12).bind fun (r13, o14, o15) =>
    (if r4 = r13 then
      k18 c_a1_above c_a1_below c_a1_board_askers c_a1_board_places o5 c_a1_board_seats o8 o6 o7 c_a1_all_slots c_a1_all_askers c_a1_all_places c_a1_all_seatBits c_a1_all_entries c_a1_all_gains c_a1_all_solvedGains c_a1_all_left c_a1_all_best c_a1_all_ways c_a1_all_next c_a1_all_firstOf c_a1_all_clipAll c_a1_all_clipToOne c_a1_all_clipToTwo c_a1_steady_askers c_a1_steady_places c_a1_steady_seatBits c_a1_steady_entries c_a1_steady_gains c_a1_steady_solvedGains c_a1_steady_left c_a1_steady_best c_a1_steady_ways c_a1_steady_next c_a1_steady_firstOf c_a1_steady_clipAll c_a1_steady_clipToOne c_a1_steady_clipToTwo c_a1_aimed_askers c_a1_aimed_places c_a1_aimed_seatBits c_a1_aimed_entries c_a1_aimed_gains c_a1_aimed_solvedGains c_a1_aimed_left c_a1_aimed_best c_a1_aimed_ways c_a1_aimed_next c_a1_aimed_firstOf c_a1_aimed_clipAll c_a1_aimed_clipToOne c_a1_aimed_clipToTwo c_a1_steadiness_most c_a1_steadiness_tight c_a1_steadiness_firsts c_a1_trade_gets c_a1_trade_servedIn c_a1_trade_holds c_a1_trade_pointsAt c_a1_trade_holderOf c_a1_ring_length c_a1_ring_members c_a1_ring_wants c_a1_lots_age c_a1_lots_runs c_a1_lots_wanting c_a1_lots_wanted c_a1_lots_answers c_a1_lots_memoKeys c_a1_lots_memos c_a1_eating_whole c_a1_eating_time c_a1_eating_eaten c_a1_eating_rest c_a1_eating_eatsAt c_a1_eating_eaters c_a1_row c_a2_askers c_a2_places c_a2_above c_a2_below c_a2_full c_a2_firsts c_a2_freed c_a2_whole c_a2_seats o15 o14 c_a2_weight c_a2_count c_a2_found c_a2_cost c_a2_least c_a2_prefer c_a2_next c_a2_firstWorth c_a2_secondWorth c_a2_stand c_a2_served c_a2_points c_a2_can c_a2_ring c_a2_ways c_a2_leftOf c_a2_ate c_a2_eats (v3 + 4)
    else
      some 0)
def f_L_law_200 (N : Nat) (L : Nat) (c_a0 : Nat → Int32) (k18 : Int64 → Int64 → Int32 → Int32 → Int32 → (Nat → Int32) → (Nat → Int32) → (Nat → Int32) → (Nat → Int32) → (Nat → Int32) → Int32 → Int32 → Int32 → Int32 → (Nat → Int32) → (Nat → Int32) → (Nat → Int32) → (Nat → Int32) → (Nat → Int32) → (Nat → Int32) → (Nat → Int32) → (Nat → Int32) → (Nat → Int32) → (Nat → Int32) → Int32 → Int32 → Int32 → Int32 → (Nat → Int32) → (Nat → Int32) → (Nat → Int32) → (Nat → Int32) → (Nat → Int32) → (Nat → Int32) → (Nat → Int32) → (Nat → Int32) → (Nat → Int32) → (Nat → Int32) → Int32 → Int32 → Int32 → Int32 → (Nat → Int32) → (Nat → Int32) → (Nat → Int32) → (Nat → Int32) → (Nat → Int32) → (Nat → Int32) → (Nat → Int32) → (Nat → Int32) → (Nat → Int32) → (Nat → Int32) → Int32 → Int32 → (Nat → Int32) → (Nat → Int32) → (Nat → Int32) → (Nat → Int32) → (Nat → Int32) → (Nat → Int32) → Int32 → (Nat → Int32) → (Nat → Int32) → Int32 → Int64 → Int32 → Int32 → (Nat → Int32) → (Nat → Int64) → (Nat → Int32) → Int64 → Int64 → (Nat → Int64) → (Nat → Int64) → (Nat → Int32) → (Nat → Int32) → (Nat → Int32) → Int32 → Int32 → Int64 → Int64 → Int32 → Int32 → Int32 → Int64 → (Nat → Int32) → (Nat → Int32) → (Nat → Int32) → (Nat → Int32) → (Nat → Int64) → (Nat → Int32) → (Nat → Int64) → (Nat → Int64) → (Nat → Int32) → (Nat → Int32) → (Nat → Int32) → (Nat → Int32) → (Nat → Int64) → (Nat → Int32) → (Nat → Int32) → (Nat → Int32) → (Nat → Int32) → (Nat → Int32) → (Nat → Int64) → (Nat → Int64) → (Nat → Int32) → Int32 → Option Int32) (c_a1_above : Int64) (c_a1_below : Int64) (c_a1_board_askers : Int32) (c_a1_board_places : Int32) (c_a1_board_age : Int32) (c_a1_board_seats : Nat → Int32) (c_a1_board_wishes : Nat → Int32) (c_a1_board_likes : Nat → Int32) (c_a1_board_told : Nat → Int32) (c_a1_all_slots : Nat → Int32) (c_a1_all_askers : Int32) (c_a1_all_places : Int32) (c_a1_all_seatBits : Int32) (c_a1_all_entries : Int32) (c_a1_all_gains : Nat → Int32) (c_a1_all_solvedGains : Nat → Int32) (c_a1_all_left : Nat → Int32) (c_a1_all_best : Nat → Int32) (c_a1_all_ways : Nat → Int32) (c_a1_all_next : Nat → Int32) (c_a1_all_firstOf : Nat → Int32) (c_a1_all_clipAll : Nat → Int32) (c_a1_all_clipToOne : Nat → Int32) (c_a1_all_clipToTwo : Nat → Int32) (c_a1_steady_askers : Int32) (c_a1_steady_places : Int32) (c_a1_steady_seatBits : Int32) (c_a1_steady_entries : Int32) (c_a1_steady_gains : Nat → Int32) (c_a1_steady_solvedGains : Nat → Int32) (c_a1_steady_left : Nat → Int32) (c_a1_steady_best : Nat → Int32) (c_a1_steady_ways : Nat → Int32) (c_a1_steady_next : Nat → Int32) (c_a1_steady_firstOf : Nat → Int32) (c_a1_steady_clipAll : Nat → Int32) (c_a1_steady_clipToOne : Nat → Int32) (c_a1_steady_clipToTwo : Nat → Int32) (c_a1_aimed_askers : Int32) (c_a1_aimed_places : Int32) (c_a1_aimed_seatBits : Int32) (c_a1_aimed_entries : Int32) (c_a1_aimed_gains : Nat → Int32) (c_a1_aimed_solvedGains : Nat → Int32) (c_a1_aimed_left : Nat → Int32) (c_a1_aimed_best : Nat → Int32) (c_a1_aimed_ways : Nat → Int32) (c_a1_aimed_next : Nat → Int32) (c_a1_aimed_firstOf : Nat → Int32) (c_a1_aimed_clipAll : Nat → Int32) (c_a1_aimed_clipToOne : Nat → Int32) (c_a1_aimed_clipToTwo : Nat → Int32) (c_a1_steadiness_most : Int32) (c_a1_steadiness_tight : Int32) (c_a1_steadiness_firsts : Nat → Int32) (c_a1_trade_gets : Nat → Int32) (c_a1_trade_servedIn : Nat → Int32) (c_a1_trade_holds : Nat → Int32) (c_a1_trade_pointsAt : Nat → Int32) (c_a1_trade_holderOf : Nat → Int32) (c_a1_ring_length : Int32) (c_a1_ring_members : Nat → Int32) (c_a1_ring_wants : Nat → Int32) (c_a1_lots_age : Int32) (c_a1_lots_runs : Int64) (c_a1_lots_wanting : Int32) (c_a1_lots_wanted : Int32) (c_a1_lots_answers : Nat → Int32) (c_a1_lots_memoKeys : Nat → Int64) (c_a1_lots_memos : Nat → Int32) (c_a1_eating_whole : Int64) (c_a1_eating_time : Int64) (c_a1_eating_eaten : Nat → Int64) (c_a1_eating_rest : Nat → Int64) (c_a1_eating_eatsAt : Nat → Int32) (c_a1_eating_eaters : Nat → Int32) (c_a1_row : Nat → Int32) (c_a2_askers : Int32) (c_a2_places : Int32) (c_a2_above : Int64) (c_a2_below : Int64) (c_a2_full : Int32) (c_a2_firsts : Int32) (c_a2_freed : Int32) (c_a2_whole : Int64) (c_a2_seats : Nat → Int32) (c_a2_wish : Nat → Int32) (c_a2_told : Nat → Int32) (c_a2_weight : Nat → Int32) (c_a2_count : Nat → Int64) (c_a2_found : Nat → Int32) (c_a2_cost : Nat → Int64) (c_a2_least : Nat → Int64) (c_a2_prefer : Nat → Int32) (c_a2_next : Nat → Int32) (c_a2_firstWorth : Nat → Int32) (c_a2_secondWorth : Nat → Int32) (c_a2_stand : Nat → Int64) (c_a2_served : Nat → Int32) (c_a2_points : Nat → Int32) (c_a2_can : Nat → Int32) (c_a2_ring : Nat → Int32) (c_a2_ways : Nat → Int32) (c_a2_leftOf : Nat → Int64) (c_a2_ate : Nat → Int64) (c_a2_eats : Nat → Int32) (v3 : Int32) : Option Int32 :=
    (rdI L c_a0 (v3 + 1)).bind fun t1 =>
    (rdI L c_a0 (v3 + 2)).bind fun t2 =>
    (f_X7_seats N c_a1_board_askers c_a1_board_places c_a1_board_told c_a1_board_age c_a1_board_seats t1 t2).bind fun (r3, o4, o5) =>
    (rdI L c_a0 (v3 + 1)).bind fun t7 =>
    (rdI L c_a0 (v3 + 2)).bind fun t8 =>
    (f_X8_seats N c_a2_askers c_a2_places c_a2_told c_a2_seats t7 t8).bind fun (r9, o10) =>
    (if r3 = r9 then
      k18 c_a1_above c_a1_below c_a1_board_askers c_a1_board_places o4 o5 c_a1_board_wishes c_a1_board_likes c_a1_board_told c_a1_all_slots c_a1_all_askers c_a1_all_places c_a1_all_seatBits c_a1_all_entries c_a1_all_gains c_a1_all_solvedGains c_a1_all_left c_a1_all_best c_a1_all_ways c_a1_all_next c_a1_all_firstOf c_a1_all_clipAll c_a1_all_clipToOne c_a1_all_clipToTwo c_a1_steady_askers c_a1_steady_places c_a1_steady_seatBits c_a1_steady_entries c_a1_steady_gains c_a1_steady_solvedGains c_a1_steady_left c_a1_steady_best c_a1_steady_ways c_a1_steady_next c_a1_steady_firstOf c_a1_steady_clipAll c_a1_steady_clipToOne c_a1_steady_clipToTwo c_a1_aimed_askers c_a1_aimed_places c_a1_aimed_seatBits c_a1_aimed_entries c_a1_aimed_gains c_a1_aimed_solvedGains c_a1_aimed_left c_a1_aimed_best c_a1_aimed_ways c_a1_aimed_next c_a1_aimed_firstOf c_a1_aimed_clipAll c_a1_aimed_clipToOne c_a1_aimed_clipToTwo c_a1_steadiness_most c_a1_steadiness_tight c_a1_steadiness_firsts c_a1_trade_gets c_a1_trade_servedIn c_a1_trade_holds c_a1_trade_pointsAt c_a1_trade_holderOf c_a1_ring_length c_a1_ring_members c_a1_ring_wants c_a1_lots_age c_a1_lots_runs c_a1_lots_wanting c_a1_lots_wanted c_a1_lots_answers c_a1_lots_memoKeys c_a1_lots_memos c_a1_eating_whole c_a1_eating_time c_a1_eating_eaten c_a1_eating_rest c_a1_eating_eatsAt c_a1_eating_eaters c_a1_row c_a2_askers c_a2_places c_a2_above c_a2_below c_a2_full c_a2_firsts c_a2_freed c_a2_whole o10 c_a2_wish c_a2_told c_a2_weight c_a2_count c_a2_found c_a2_cost c_a2_least c_a2_prefer c_a2_next c_a2_firstWorth c_a2_secondWorth c_a2_stand c_a2_served c_a2_points c_a2_can c_a2_ring c_a2_ways c_a2_leftOf c_a2_ate c_a2_eats (v3 + 4)
    else
      some 0)
def f_L_law_177 (N : Nat) (L : Nat) (c_a0 : Nat → Int32) (k18 : Int64 → Int64 → Int32 → Int32 → Int32 → (Nat → Int32) → (Nat → Int32) → (Nat → Int32) → (Nat → Int32) → (Nat → Int32) → Int32 → Int32 → Int32 → Int32 → (Nat → Int32) → (Nat → Int32) → (Nat → Int32) → (Nat → Int32) → (Nat → Int32) → (Nat → Int32) → (Nat → Int32) → (Nat → Int32) → (Nat → Int32) → (Nat → Int32) → Int32 → Int32 → Int32 → Int32 → (Nat → Int32) → (Nat → Int32) → (Nat → Int32) → (Nat → Int32) → (Nat → Int32) → (Nat → Int32) → (Nat → Int32) → (Nat → Int32) → (Nat → Int32) → (Nat → Int32) → Int32 → Int32 → Int32 → Int32 → (Nat → Int32) → (Nat → Int32) → (Nat → Int32) → (Nat → Int32) → (Nat → Int32) → (Nat → Int32) → (Nat → Int32) → (Nat → Int32) → (Nat → Int32) → (Nat → Int32) → Int32 → Int32 → (Nat → Int32) → (Nat → Int32) → (Nat → Int32) → (Nat → Int32) → (Nat → Int32) → (Nat → Int32) → Int32 → (Nat → Int32) → (Nat → Int32) → Int32 → Int64 → Int32 → Int32 → (Nat → Int32) → (Nat → Int64) → (Nat → Int32) → Int64 → Int64 → (Nat → Int64) → (Nat → Int64) → (Nat → Int32) → (Nat → Int32) → (Nat → Int32) → Int32 → Int32 → Int64 → Int64 → Int32 → Int32 → Int32 → Int64 → (Nat → Int32) → (Nat → Int32) → (Nat → Int32) → (Nat → Int32) → (Nat → Int64) → (Nat → Int32) → (Nat → Int64) → (Nat → Int64) → (Nat → Int32) → (Nat → Int32) → (Nat → Int32) → (Nat → Int32) → (Nat → Int64) → (Nat → Int32) → (Nat → Int32) → (Nat → Int32) → (Nat → Int32) → (Nat → Int32) → (Nat → Int64) → (Nat → Int64) → (Nat → Int32) → Int32 → Option Int32) (c_a1_above : Int64) (c_a1_below : Int64) (c_a1_board_askers : Int32) (c_a1_board_places : Int32) (c_a1_board_age : Int32) (c_a1_board_seats : Nat → Int32) (c_a1_board_wishes : Nat → Int32) (c_a1_board_likes : Nat → Int32) (c_a1_board_told : Nat → Int32) (c_a1_all_slots : Nat → Int32) (c_a1_all_askers : Int32) (c_a1_all_places : Int32) (c_a1_all_seatBits : Int32) (c_a1_all_entries : Int32) (c_a1_all_gains : Nat → Int32) (c_a1_all_solvedGains : Nat → Int32) (c_a1_all_left : Nat → Int32) (c_a1_all_best : Nat → Int32) (c_a1_all_ways : Nat → Int32) (c_a1_all_next : Nat → Int32) (c_a1_all_firstOf : Nat → Int32) (c_a1_all_clipAll : Nat → Int32) (c_a1_all_clipToOne : Nat → Int32) (c_a1_all_clipToTwo : Nat → Int32) (c_a1_steady_askers : Int32) (c_a1_steady_places : Int32) (c_a1_steady_seatBits : Int32) (c_a1_steady_entries : Int32) (c_a1_steady_gains : Nat → Int32) (c_a1_steady_solvedGains : Nat → Int32) (c_a1_steady_left : Nat → Int32) (c_a1_steady_best : Nat → Int32) (c_a1_steady_ways : Nat → Int32) (c_a1_steady_next : Nat → Int32) (c_a1_steady_firstOf : Nat → Int32) (c_a1_steady_clipAll : Nat → Int32) (c_a1_steady_clipToOne : Nat → Int32) (c_a1_steady_clipToTwo : Nat → Int32) (c_a1_aimed_askers : Int32) (c_a1_aimed_places : Int32) (c_a1_aimed_seatBits : Int32) (c_a1_aimed_entries : Int32) (c_a1_aimed_gains : Nat → Int32) (c_a1_aimed_solvedGains : Nat → Int32) (c_a1_aimed_left : Nat → Int32) (c_a1_aimed_best : Nat → Int32) (c_a1_aimed_ways : Nat → Int32) (c_a1_aimed_next : Nat → Int32) (c_a1_aimed_firstOf : Nat → Int32) (c_a1_aimed_clipAll : Nat → Int32) (c_a1_aimed_clipToOne : Nat → Int32) (c_a1_aimed_clipToTwo : Nat → Int32) (c_a1_steadiness_most : Int32) (c_a1_steadiness_tight : Int32) (c_a1_steadiness_firsts : Nat → Int32) (c_a1_trade_gets : Nat → Int32) (c_a1_trade_servedIn : Nat → Int32) (c_a1_trade_holds : Nat → Int32) (c_a1_trade_pointsAt : Nat → Int32) (c_a1_trade_holderOf : Nat → Int32) (c_a1_ring_length : Int32) (c_a1_ring_members : Nat → Int32) (c_a1_ring_wants : Nat → Int32) (c_a1_lots_age : Int32) (c_a1_lots_runs : Int64) (c_a1_lots_wanting : Int32) (c_a1_lots_wanted : Int32) (c_a1_lots_answers : Nat → Int32) (c_a1_lots_memoKeys : Nat → Int64) (c_a1_lots_memos : Nat → Int32) (c_a1_eating_whole : Int64) (c_a1_eating_time : Int64) (c_a1_eating_eaten : Nat → Int64) (c_a1_eating_rest : Nat → Int64) (c_a1_eating_eatsAt : Nat → Int32) (c_a1_eating_eaters : Nat → Int32) (c_a1_row : Nat → Int32) (c_a2_askers : Int32) (c_a2_places : Int32) (c_a2_above : Int64) (c_a2_below : Int64) (c_a2_full : Int32) (c_a2_firsts : Int32) (c_a2_freed : Int32) (c_a2_whole : Int64) (c_a2_seats : Nat → Int32) (c_a2_wish : Nat → Int32) (c_a2_told : Nat → Int32) (c_a2_weight : Nat → Int32) (c_a2_count : Nat → Int64) (c_a2_found : Nat → Int32) (c_a2_cost : Nat → Int64) (c_a2_least : Nat → Int64) (c_a2_prefer : Nat → Int32) (c_a2_next : Nat → Int32) (c_a2_firstWorth : Nat → Int32) (c_a2_secondWorth : Nat → Int32) (c_a2_stand : Nat → Int64) (c_a2_served : Nat → Int32) (c_a2_points : Nat → Int32) (c_a2_can : Nat → Int32) (c_a2_ring : Nat → Int32) (c_a2_ways : Nat → Int32) (c_a2_leftOf : Nat → Int64) (c_a2_ate : Nat → Int64) (c_a2_eats : Nat → Int32) (v3 : Int32) : Option Int32 :=
    (rdI L c_a0 (v3 + 1)).bind fun t1 =>
    (f_X7_place N c_a1_board_places c_a1_board_age c_a1_board_seats t1).bind fun (r2, o3, o4, o5) =>
    (rdI L c_a0 (v3 + 1)).bind fun t7 =>
    (f_X8_place N c_a2_places c_a2_seats t7).bind fun (r8, o9, o10) =>
    (if r2 = r8 then
      k18 c_a1_above c_a1_below c_a1_board_askers o3 o4 o5 c_a1_board_wishes c_a1_board_likes c_a1_board_told c_a1_all_slots c_a1_all_askers c_a1_all_places c_a1_all_seatBits c_a1_all_entries c_a1_all_gains c_a1_all_solvedGains c_a1_all_left c_a1_all_best c_a1_all_ways c_a1_all_next c_a1_all_firstOf c_a1_all_clipAll c_a1_all_clipToOne c_a1_all_clipToTwo c_a1_steady_askers c_a1_steady_places c_a1_steady_seatBits c_a1_steady_entries c_a1_steady_gains c_a1_steady_solvedGains c_a1_steady_left c_a1_steady_best c_a1_steady_ways c_a1_steady_next c_a1_steady_firstOf c_a1_steady_clipAll c_a1_steady_clipToOne c_a1_steady_clipToTwo c_a1_aimed_askers c_a1_aimed_places c_a1_aimed_seatBits c_a1_aimed_entries c_a1_aimed_gains c_a1_aimed_solvedGains c_a1_aimed_left c_a1_aimed_best c_a1_aimed_ways c_a1_aimed_next c_a1_aimed_firstOf c_a1_aimed_clipAll c_a1_aimed_clipToOne c_a1_aimed_clipToTwo c_a1_steadiness_most c_a1_steadiness_tight c_a1_steadiness_firsts c_a1_trade_gets c_a1_trade_servedIn c_a1_trade_holds c_a1_trade_pointsAt c_a1_trade_holderOf c_a1_ring_length c_a1_ring_members c_a1_ring_wants c_a1_lots_age c_a1_lots_runs c_a1_lots_wanting c_a1_lots_wanted c_a1_lots_answers c_a1_lots_memoKeys c_a1_lots_memos c_a1_eating_whole c_a1_eating_time c_a1_eating_eaten c_a1_eating_rest c_a1_eating_eatsAt c_a1_eating_eaters c_a1_row c_a2_askers o9 c_a2_above c_a2_below c_a2_full c_a2_firsts c_a2_freed c_a2_whole o10 c_a2_wish c_a2_told c_a2_weight c_a2_count c_a2_found c_a2_cost c_a2_least c_a2_prefer c_a2_next c_a2_firstWorth c_a2_secondWorth c_a2_stand c_a2_served c_a2_points c_a2_can c_a2_ring c_a2_ways c_a2_leftOf c_a2_ate c_a2_eats (v3 + 4)
    else
      some 0)
def f_L_law_164 (N : Nat) (L : Nat) (c_a0 : Nat → Int32) (k18 : Int64 → Int64 → Int32 → Int32 → Int32 → (Nat → Int32) → (Nat → Int32) → (Nat → Int32) → (Nat → Int32) → (Nat → Int32) → Int32 → Int32 → Int32 → Int32 → (Nat → Int32) → (Nat → Int32) → (Nat → Int32) → (Nat → Int32) → (Nat → Int32) → (Nat → Int32) → (Nat → Int32) → (Nat → Int32) → (Nat → Int32) → (Nat → Int32) → Int32 → Int32 → Int32 → Int32 → (Nat → Int32) → (Nat → Int32) → (Nat → Int32) → (Nat → Int32) → (Nat → Int32) → (Nat → Int32) → (Nat → Int32) → (Nat → Int32) → (Nat → Int32) → (Nat → Int32) → Int32 → Int32 → Int32 → Int32 → (Nat → Int32) → (Nat → Int32) → (Nat → Int32) → (Nat → Int32) → (Nat → Int32) → (Nat → Int32) → (Nat → Int32) → (Nat → Int32) → (Nat → Int32) → (Nat → Int32) → Int32 → Int32 → (Nat → Int32) → (Nat → Int32) → (Nat → Int32) → (Nat → Int32) → (Nat → Int32) → (Nat → Int32) → Int32 → (Nat → Int32) → (Nat → Int32) → Int32 → Int64 → Int32 → Int32 → (Nat → Int32) → (Nat → Int64) → (Nat → Int32) → Int64 → Int64 → (Nat → Int64) → (Nat → Int64) → (Nat → Int32) → (Nat → Int32) → (Nat → Int32) → Int32 → Int32 → Int64 → Int64 → Int32 → Int32 → Int32 → Int64 → (Nat → Int32) → (Nat → Int32) → (Nat → Int32) → (Nat → Int32) → (Nat → Int64) → (Nat → Int32) → (Nat → Int64) → (Nat → Int64) → (Nat → Int32) → (Nat → Int32) → (Nat → Int32) → (Nat → Int32) → (Nat → Int64) → (Nat → Int32) → (Nat → Int32) → (Nat → Int32) → (Nat → Int32) → (Nat → Int32) → (Nat → Int64) → (Nat → Int64) → (Nat → Int32) → Int32 → Option Int32) (c_a1_above : Int64) (c_a1_below : Int64) (c_a1_board_askers : Int32) (c_a1_board_places : Int32) (c_a1_board_age : Int32) (c_a1_board_seats : Nat → Int32) (c_a1_board_wishes : Nat → Int32) (c_a1_board_likes : Nat → Int32) (c_a1_board_told : Nat → Int32) (c_a1_all_slots : Nat → Int32) (c_a1_all_askers : Int32) (c_a1_all_places : Int32) (c_a1_all_seatBits : Int32) (c_a1_all_entries : Int32) (c_a1_all_gains : Nat → Int32) (c_a1_all_solvedGains : Nat → Int32) (c_a1_all_left : Nat → Int32) (c_a1_all_best : Nat → Int32) (c_a1_all_ways : Nat → Int32) (c_a1_all_next : Nat → Int32) (c_a1_all_firstOf : Nat → Int32) (c_a1_all_clipAll : Nat → Int32) (c_a1_all_clipToOne : Nat → Int32) (c_a1_all_clipToTwo : Nat → Int32) (c_a1_steady_askers : Int32) (c_a1_steady_places : Int32) (c_a1_steady_seatBits : Int32) (c_a1_steady_entries : Int32) (c_a1_steady_gains : Nat → Int32) (c_a1_steady_solvedGains : Nat → Int32) (c_a1_steady_left : Nat → Int32) (c_a1_steady_best : Nat → Int32) (c_a1_steady_ways : Nat → Int32) (c_a1_steady_next : Nat → Int32) (c_a1_steady_firstOf : Nat → Int32) (c_a1_steady_clipAll : Nat → Int32) (c_a1_steady_clipToOne : Nat → Int32) (c_a1_steady_clipToTwo : Nat → Int32) (c_a1_aimed_askers : Int32) (c_a1_aimed_places : Int32) (c_a1_aimed_seatBits : Int32) (c_a1_aimed_entries : Int32) (c_a1_aimed_gains : Nat → Int32) (c_a1_aimed_solvedGains : Nat → Int32) (c_a1_aimed_left : Nat → Int32) (c_a1_aimed_best : Nat → Int32) (c_a1_aimed_ways : Nat → Int32) (c_a1_aimed_next : Nat → Int32) (c_a1_aimed_firstOf : Nat → Int32) (c_a1_aimed_clipAll : Nat → Int32) (c_a1_aimed_clipToOne : Nat → Int32) (c_a1_aimed_clipToTwo : Nat → Int32) (c_a1_steadiness_most : Int32) (c_a1_steadiness_tight : Int32) (c_a1_steadiness_firsts : Nat → Int32) (c_a1_trade_gets : Nat → Int32) (c_a1_trade_servedIn : Nat → Int32) (c_a1_trade_holds : Nat → Int32) (c_a1_trade_pointsAt : Nat → Int32) (c_a1_trade_holderOf : Nat → Int32) (c_a1_ring_length : Int32) (c_a1_ring_members : Nat → Int32) (c_a1_ring_wants : Nat → Int32) (c_a1_lots_age : Int32) (c_a1_lots_runs : Int64) (c_a1_lots_wanting : Int32) (c_a1_lots_wanted : Int32) (c_a1_lots_answers : Nat → Int32) (c_a1_lots_memoKeys : Nat → Int64) (c_a1_lots_memos : Nat → Int32) (c_a1_eating_whole : Int64) (c_a1_eating_time : Int64) (c_a1_eating_eaten : Nat → Int64) (c_a1_eating_rest : Nat → Int64) (c_a1_eating_eatsAt : Nat → Int32) (c_a1_eating_eaters : Nat → Int32) (c_a1_row : Nat → Int32) (c_a2_askers : Int32) (c_a2_places : Int32) (c_a2_above : Int64) (c_a2_below : Int64) (c_a2_full : Int32) (c_a2_firsts : Int32) (c_a2_freed : Int32) (c_a2_whole : Int64) (c_a2_seats : Nat → Int32) (c_a2_wish : Nat → Int32) (c_a2_told : Nat → Int32) (c_a2_weight : Nat → Int32) (c_a2_count : Nat → Int64) (c_a2_found : Nat → Int32) (c_a2_cost : Nat → Int64) (c_a2_least : Nat → Int64) (c_a2_prefer : Nat → Int32) (c_a2_next : Nat → Int32) (c_a2_firstWorth : Nat → Int32) (c_a2_secondWorth : Nat → Int32) (c_a2_stand : Nat → Int64) (c_a2_served : Nat → Int32) (c_a2_points : Nat → Int32) (c_a2_can : Nat → Int32) (c_a2_ring : Nat → Int32) (c_a2_ways : Nat → Int32) (c_a2_leftOf : Nat → Int64) (c_a2_ate : Nat → Int64) (c_a2_eats : Nat → Int32) (v3 : Int32) : Option Int32 :=
    (f_X7_asker N c_a1_board_askers c_a1_board_age).bind fun (r1, o2, o3) =>
    (f_X8_asker N c_a2_askers).bind fun (r5, o6) =>
    (if r1 = r5 then
      k18 c_a1_above c_a1_below o2 c_a1_board_places o3 c_a1_board_seats c_a1_board_wishes c_a1_board_likes c_a1_board_told c_a1_all_slots c_a1_all_askers c_a1_all_places c_a1_all_seatBits c_a1_all_entries c_a1_all_gains c_a1_all_solvedGains c_a1_all_left c_a1_all_best c_a1_all_ways c_a1_all_next c_a1_all_firstOf c_a1_all_clipAll c_a1_all_clipToOne c_a1_all_clipToTwo c_a1_steady_askers c_a1_steady_places c_a1_steady_seatBits c_a1_steady_entries c_a1_steady_gains c_a1_steady_solvedGains c_a1_steady_left c_a1_steady_best c_a1_steady_ways c_a1_steady_next c_a1_steady_firstOf c_a1_steady_clipAll c_a1_steady_clipToOne c_a1_steady_clipToTwo c_a1_aimed_askers c_a1_aimed_places c_a1_aimed_seatBits c_a1_aimed_entries c_a1_aimed_gains c_a1_aimed_solvedGains c_a1_aimed_left c_a1_aimed_best c_a1_aimed_ways c_a1_aimed_next c_a1_aimed_firstOf c_a1_aimed_clipAll c_a1_aimed_clipToOne c_a1_aimed_clipToTwo c_a1_steadiness_most c_a1_steadiness_tight c_a1_steadiness_firsts c_a1_trade_gets c_a1_trade_servedIn c_a1_trade_holds c_a1_trade_pointsAt c_a1_trade_holderOf c_a1_ring_length c_a1_ring_members c_a1_ring_wants c_a1_lots_age c_a1_lots_runs c_a1_lots_wanting c_a1_lots_wanted c_a1_lots_answers c_a1_lots_memoKeys c_a1_lots_memos c_a1_eating_whole c_a1_eating_time c_a1_eating_eaten c_a1_eating_rest c_a1_eating_eatsAt c_a1_eating_eaters c_a1_row o6 c_a2_places c_a2_above c_a2_below c_a2_full c_a2_firsts c_a2_freed c_a2_whole c_a2_seats c_a2_wish c_a2_told c_a2_weight c_a2_count c_a2_found c_a2_cost c_a2_least c_a2_prefer c_a2_next c_a2_firstWorth c_a2_secondWorth c_a2_stand c_a2_served c_a2_points c_a2_can c_a2_ring c_a2_ways c_a2_leftOf c_a2_ate c_a2_eats (v3 + 4)
    else
      some 0)
set_option maxRecDepth 100000 in
set_option maxHeartbeats 4000000 in
def f_L_law_18 (N : Nat) (L : Nat) (c_a0 : Nat → Int32) : Nat → Int64 → Int64 → Int32 → Int32 → Int32 → (Nat → Int32) → (Nat → Int32) → (Nat → Int32) → (Nat → Int32) → (Nat → Int32) → Int32 → Int32 → Int32 → Int32 → (Nat → Int32) → (Nat → Int32) → (Nat → Int32) → (Nat → Int32) → (Nat → Int32) → (Nat → Int32) → (Nat → Int32) → (Nat → Int32) → (Nat → Int32) → (Nat → Int32) → Int32 → Int32 → Int32 → Int32 → (Nat → Int32) → (Nat → Int32) → (Nat → Int32) → (Nat → Int32) → (Nat → Int32) → (Nat → Int32) → (Nat → Int32) → (Nat → Int32) → (Nat → Int32) → (Nat → Int32) → Int32 → Int32 → Int32 → Int32 → (Nat → Int32) → (Nat → Int32) → (Nat → Int32) → (Nat → Int32) → (Nat → Int32) → (Nat → Int32) → (Nat → Int32) → (Nat → Int32) → (Nat → Int32) → (Nat → Int32) → Int32 → Int32 → (Nat → Int32) → (Nat → Int32) → (Nat → Int32) → (Nat → Int32) → (Nat → Int32) → (Nat → Int32) → Int32 → (Nat → Int32) → (Nat → Int32) → Int32 → Int64 → Int32 → Int32 → (Nat → Int32) → (Nat → Int64) → (Nat → Int32) → Int64 → Int64 → (Nat → Int64) → (Nat → Int64) → (Nat → Int32) → (Nat → Int32) → (Nat → Int32) → Int32 → Int32 → Int64 → Int64 → Int32 → Int32 → Int32 → Int64 → (Nat → Int32) → (Nat → Int32) → (Nat → Int32) → (Nat → Int32) → (Nat → Int64) → (Nat → Int32) → (Nat → Int64) → (Nat → Int64) → (Nat → Int32) → (Nat → Int32) → (Nat → Int32) → (Nat → Int32) → (Nat → Int64) → (Nat → Int32) → (Nat → Int32) → (Nat → Int32) → (Nat → Int32) → (Nat → Int32) → (Nat → Int64) → (Nat → Int64) → (Nat → Int32) → Int32 → Option Int32
  | 0, _, _, _, _, _, _, _, _, _, _, _, _, _, _, _, _, _, _, _, _, _, _, _, _, _, _, _, _, _, _, _, _, _, _, _, _, _, _, _, _, _, _, _, _, _, _, _, _, _, _, _, _, _, _, _, _, _, _, _, _, _, _, _, _, _, _, _, _, _, _, _, _, _, _, _, _, _, _, _, _, _, _, _, _, _, _, _, _, _, _, _, _, _, _, _, _, _, _, _, _, _, _, _, _, _, _, _ => none
  | n + 1, c_a1_above, c_a1_below, c_a1_board_askers, c_a1_board_places, c_a1_board_age, c_a1_board_seats, c_a1_board_wishes, c_a1_board_likes, c_a1_board_told, c_a1_all_slots, c_a1_all_askers, c_a1_all_places, c_a1_all_seatBits, c_a1_all_entries, c_a1_all_gains, c_a1_all_solvedGains, c_a1_all_left, c_a1_all_best, c_a1_all_ways, c_a1_all_next, c_a1_all_firstOf, c_a1_all_clipAll, c_a1_all_clipToOne, c_a1_all_clipToTwo, c_a1_steady_askers, c_a1_steady_places, c_a1_steady_seatBits, c_a1_steady_entries, c_a1_steady_gains, c_a1_steady_solvedGains, c_a1_steady_left, c_a1_steady_best, c_a1_steady_ways, c_a1_steady_next, c_a1_steady_firstOf, c_a1_steady_clipAll, c_a1_steady_clipToOne, c_a1_steady_clipToTwo, c_a1_aimed_askers, c_a1_aimed_places, c_a1_aimed_seatBits, c_a1_aimed_entries, c_a1_aimed_gains, c_a1_aimed_solvedGains, c_a1_aimed_left, c_a1_aimed_best, c_a1_aimed_ways, c_a1_aimed_next, c_a1_aimed_firstOf, c_a1_aimed_clipAll, c_a1_aimed_clipToOne, c_a1_aimed_clipToTwo, c_a1_steadiness_most, c_a1_steadiness_tight, c_a1_steadiness_firsts, c_a1_trade_gets, c_a1_trade_servedIn, c_a1_trade_holds, c_a1_trade_pointsAt, c_a1_trade_holderOf, c_a1_ring_length, c_a1_ring_members, c_a1_ring_wants, c_a1_lots_age, c_a1_lots_runs, c_a1_lots_wanting, c_a1_lots_wanted, c_a1_lots_answers, c_a1_lots_memoKeys, c_a1_lots_memos, c_a1_eating_whole, c_a1_eating_time, c_a1_eating_eaten, c_a1_eating_rest, c_a1_eating_eatsAt, c_a1_eating_eaters, c_a1_row, c_a2_askers, c_a2_places, c_a2_above, c_a2_below, c_a2_full, c_a2_firsts, c_a2_freed, c_a2_whole, c_a2_seats, c_a2_wish, c_a2_told, c_a2_weight, c_a2_count, c_a2_found, c_a2_cost, c_a2_least, c_a2_prefer, c_a2_next, c_a2_firstWorth, c_a2_secondWorth, c_a2_stand, c_a2_served, c_a2_points, c_a2_can, c_a2_ring, c_a2_ways, c_a2_leftOf, c_a2_ate, c_a2_eats, v3 =>
    (if ((Int32.ofNat L) - 4) < v3 then
      some 1
    else
      (rdI L c_a0 v3).bind fun t2 =>
      if (t2 &&& (31 : Int32)) = 0 then
        f_L_law_164 N L c_a0 (f_L_law_18 N L c_a0 n) c_a1_above c_a1_below c_a1_board_askers c_a1_board_places c_a1_board_age c_a1_board_seats c_a1_board_wishes c_a1_board_likes c_a1_board_told c_a1_all_slots c_a1_all_askers c_a1_all_places c_a1_all_seatBits c_a1_all_entries c_a1_all_gains c_a1_all_solvedGains c_a1_all_left c_a1_all_best c_a1_all_ways c_a1_all_next c_a1_all_firstOf c_a1_all_clipAll c_a1_all_clipToOne c_a1_all_clipToTwo c_a1_steady_askers c_a1_steady_places c_a1_steady_seatBits c_a1_steady_entries c_a1_steady_gains c_a1_steady_solvedGains c_a1_steady_left c_a1_steady_best c_a1_steady_ways c_a1_steady_next c_a1_steady_firstOf c_a1_steady_clipAll c_a1_steady_clipToOne c_a1_steady_clipToTwo c_a1_aimed_askers c_a1_aimed_places c_a1_aimed_seatBits c_a1_aimed_entries c_a1_aimed_gains c_a1_aimed_solvedGains c_a1_aimed_left c_a1_aimed_best c_a1_aimed_ways c_a1_aimed_next c_a1_aimed_firstOf c_a1_aimed_clipAll c_a1_aimed_clipToOne c_a1_aimed_clipToTwo c_a1_steadiness_most c_a1_steadiness_tight c_a1_steadiness_firsts c_a1_trade_gets c_a1_trade_servedIn c_a1_trade_holds c_a1_trade_pointsAt c_a1_trade_holderOf c_a1_ring_length c_a1_ring_members c_a1_ring_wants c_a1_lots_age c_a1_lots_runs c_a1_lots_wanting c_a1_lots_wanted c_a1_lots_answers c_a1_lots_memoKeys c_a1_lots_memos c_a1_eating_whole c_a1_eating_time c_a1_eating_eaten c_a1_eating_rest c_a1_eating_eatsAt c_a1_eating_eaters c_a1_row c_a2_askers c_a2_places c_a2_above c_a2_below c_a2_full c_a2_firsts c_a2_freed c_a2_whole c_a2_seats c_a2_wish c_a2_told c_a2_weight c_a2_count c_a2_found c_a2_cost c_a2_least c_a2_prefer c_a2_next c_a2_firstWorth c_a2_secondWorth c_a2_stand c_a2_served c_a2_points c_a2_can c_a2_ring c_a2_ways c_a2_leftOf c_a2_ate c_a2_eats v3
      else if (t2 &&& (31 : Int32)) = 1 then
        f_L_law_177 N L c_a0 (f_L_law_18 N L c_a0 n) c_a1_above c_a1_below c_a1_board_askers c_a1_board_places c_a1_board_age c_a1_board_seats c_a1_board_wishes c_a1_board_likes c_a1_board_told c_a1_all_slots c_a1_all_askers c_a1_all_places c_a1_all_seatBits c_a1_all_entries c_a1_all_gains c_a1_all_solvedGains c_a1_all_left c_a1_all_best c_a1_all_ways c_a1_all_next c_a1_all_firstOf c_a1_all_clipAll c_a1_all_clipToOne c_a1_all_clipToTwo c_a1_steady_askers c_a1_steady_places c_a1_steady_seatBits c_a1_steady_entries c_a1_steady_gains c_a1_steady_solvedGains c_a1_steady_left c_a1_steady_best c_a1_steady_ways c_a1_steady_next c_a1_steady_firstOf c_a1_steady_clipAll c_a1_steady_clipToOne c_a1_steady_clipToTwo c_a1_aimed_askers c_a1_aimed_places c_a1_aimed_seatBits c_a1_aimed_entries c_a1_aimed_gains c_a1_aimed_solvedGains c_a1_aimed_left c_a1_aimed_best c_a1_aimed_ways c_a1_aimed_next c_a1_aimed_firstOf c_a1_aimed_clipAll c_a1_aimed_clipToOne c_a1_aimed_clipToTwo c_a1_steadiness_most c_a1_steadiness_tight c_a1_steadiness_firsts c_a1_trade_gets c_a1_trade_servedIn c_a1_trade_holds c_a1_trade_pointsAt c_a1_trade_holderOf c_a1_ring_length c_a1_ring_members c_a1_ring_wants c_a1_lots_age c_a1_lots_runs c_a1_lots_wanting c_a1_lots_wanted c_a1_lots_answers c_a1_lots_memoKeys c_a1_lots_memos c_a1_eating_whole c_a1_eating_time c_a1_eating_eaten c_a1_eating_rest c_a1_eating_eatsAt c_a1_eating_eaters c_a1_row c_a2_askers c_a2_places c_a2_above c_a2_below c_a2_full c_a2_firsts c_a2_freed c_a2_whole c_a2_seats c_a2_wish c_a2_told c_a2_weight c_a2_count c_a2_found c_a2_cost c_a2_least c_a2_prefer c_a2_next c_a2_firstWorth c_a2_secondWorth c_a2_stand c_a2_served c_a2_points c_a2_can c_a2_ring c_a2_ways c_a2_leftOf c_a2_ate c_a2_eats v3
      else if (t2 &&& (31 : Int32)) = 2 then
        f_L_law_200 N L c_a0 (f_L_law_18 N L c_a0 n) c_a1_above c_a1_below c_a1_board_askers c_a1_board_places c_a1_board_age c_a1_board_seats c_a1_board_wishes c_a1_board_likes c_a1_board_told c_a1_all_slots c_a1_all_askers c_a1_all_places c_a1_all_seatBits c_a1_all_entries c_a1_all_gains c_a1_all_solvedGains c_a1_all_left c_a1_all_best c_a1_all_ways c_a1_all_next c_a1_all_firstOf c_a1_all_clipAll c_a1_all_clipToOne c_a1_all_clipToTwo c_a1_steady_askers c_a1_steady_places c_a1_steady_seatBits c_a1_steady_entries c_a1_steady_gains c_a1_steady_solvedGains c_a1_steady_left c_a1_steady_best c_a1_steady_ways c_a1_steady_next c_a1_steady_firstOf c_a1_steady_clipAll c_a1_steady_clipToOne c_a1_steady_clipToTwo c_a1_aimed_askers c_a1_aimed_places c_a1_aimed_seatBits c_a1_aimed_entries c_a1_aimed_gains c_a1_aimed_solvedGains c_a1_aimed_left c_a1_aimed_best c_a1_aimed_ways c_a1_aimed_next c_a1_aimed_firstOf c_a1_aimed_clipAll c_a1_aimed_clipToOne c_a1_aimed_clipToTwo c_a1_steadiness_most c_a1_steadiness_tight c_a1_steadiness_firsts c_a1_trade_gets c_a1_trade_servedIn c_a1_trade_holds c_a1_trade_pointsAt c_a1_trade_holderOf c_a1_ring_length c_a1_ring_members c_a1_ring_wants c_a1_lots_age c_a1_lots_runs c_a1_lots_wanting c_a1_lots_wanted c_a1_lots_answers c_a1_lots_memoKeys c_a1_lots_memos c_a1_eating_whole c_a1_eating_time c_a1_eating_eaten c_a1_eating_rest c_a1_eating_eatsAt c_a1_eating_eaters c_a1_row c_a2_askers c_a2_places c_a2_above c_a2_below c_a2_full c_a2_firsts c_a2_freed c_a2_whole c_a2_seats c_a2_wish c_a2_told c_a2_weight c_a2_count c_a2_found c_a2_cost c_a2_least c_a2_prefer c_a2_next c_a2_firstWorth c_a2_secondWorth c_a2_stand c_a2_served c_a2_points c_a2_can c_a2_ring c_a2_ways c_a2_leftOf c_a2_ate c_a2_eats v3
      else if (t2 &&& (31 : Int32)) = 3 then
        f_L_law_233 N L c_a0 (f_L_law_18 N L c_a0 n) c_a1_above c_a1_below c_a1_board_askers c_a1_board_places c_a1_board_age c_a1_board_seats c_a1_board_wishes c_a1_board_likes c_a1_board_told c_a1_all_slots c_a1_all_askers c_a1_all_places c_a1_all_seatBits c_a1_all_entries c_a1_all_gains c_a1_all_solvedGains c_a1_all_left c_a1_all_best c_a1_all_ways c_a1_all_next c_a1_all_firstOf c_a1_all_clipAll c_a1_all_clipToOne c_a1_all_clipToTwo c_a1_steady_askers c_a1_steady_places c_a1_steady_seatBits c_a1_steady_entries c_a1_steady_gains c_a1_steady_solvedGains c_a1_steady_left c_a1_steady_best c_a1_steady_ways c_a1_steady_next c_a1_steady_firstOf c_a1_steady_clipAll c_a1_steady_clipToOne c_a1_steady_clipToTwo c_a1_aimed_askers c_a1_aimed_places c_a1_aimed_seatBits c_a1_aimed_entries c_a1_aimed_gains c_a1_aimed_solvedGains c_a1_aimed_left c_a1_aimed_best c_a1_aimed_ways c_a1_aimed_next c_a1_aimed_firstOf c_a1_aimed_clipAll c_a1_aimed_clipToOne c_a1_aimed_clipToTwo c_a1_steadiness_most c_a1_steadiness_tight c_a1_steadiness_firsts c_a1_trade_gets c_a1_trade_servedIn c_a1_trade_holds c_a1_trade_pointsAt c_a1_trade_holderOf c_a1_ring_length c_a1_ring_members c_a1_ring_wants c_a1_lots_age c_a1_lots_runs c_a1_lots_wanting c_a1_lots_wanted c_a1_lots_answers c_a1_lots_memoKeys c_a1_lots_memos c_a1_eating_whole c_a1_eating_time c_a1_eating_eaten c_a1_eating_rest c_a1_eating_eatsAt c_a1_eating_eaters c_a1_row c_a2_askers c_a2_places c_a2_above c_a2_below c_a2_full c_a2_firsts c_a2_freed c_a2_whole c_a2_seats c_a2_wish c_a2_told c_a2_weight c_a2_count c_a2_found c_a2_cost c_a2_least c_a2_prefer c_a2_next c_a2_firstWorth c_a2_secondWorth c_a2_stand c_a2_served c_a2_points c_a2_can c_a2_ring c_a2_ways c_a2_leftOf c_a2_ate c_a2_eats v3
      else if (t2 &&& (31 : Int32)) = 4 then
        f_L_law_276 N L c_a0 (f_L_law_18 N L c_a0 n) c_a1_above c_a1_below c_a1_board_askers c_a1_board_places c_a1_board_age c_a1_board_seats c_a1_board_wishes c_a1_board_likes c_a1_board_told c_a1_all_slots c_a1_all_askers c_a1_all_places c_a1_all_seatBits c_a1_all_entries c_a1_all_gains c_a1_all_solvedGains c_a1_all_left c_a1_all_best c_a1_all_ways c_a1_all_next c_a1_all_firstOf c_a1_all_clipAll c_a1_all_clipToOne c_a1_all_clipToTwo c_a1_steady_askers c_a1_steady_places c_a1_steady_seatBits c_a1_steady_entries c_a1_steady_gains c_a1_steady_solvedGains c_a1_steady_left c_a1_steady_best c_a1_steady_ways c_a1_steady_next c_a1_steady_firstOf c_a1_steady_clipAll c_a1_steady_clipToOne c_a1_steady_clipToTwo c_a1_aimed_askers c_a1_aimed_places c_a1_aimed_seatBits c_a1_aimed_entries c_a1_aimed_gains c_a1_aimed_solvedGains c_a1_aimed_left c_a1_aimed_best c_a1_aimed_ways c_a1_aimed_next c_a1_aimed_firstOf c_a1_aimed_clipAll c_a1_aimed_clipToOne c_a1_aimed_clipToTwo c_a1_steadiness_most c_a1_steadiness_tight c_a1_steadiness_firsts c_a1_trade_gets c_a1_trade_servedIn c_a1_trade_holds c_a1_trade_pointsAt c_a1_trade_holderOf c_a1_ring_length c_a1_ring_members c_a1_ring_wants c_a1_lots_age c_a1_lots_runs c_a1_lots_wanting c_a1_lots_wanted c_a1_lots_answers c_a1_lots_memoKeys c_a1_lots_memos c_a1_eating_whole c_a1_eating_time c_a1_eating_eaten c_a1_eating_rest c_a1_eating_eatsAt c_a1_eating_eaters c_a1_row c_a2_askers c_a2_places c_a2_above c_a2_below c_a2_full c_a2_firsts c_a2_freed c_a2_whole c_a2_seats c_a2_wish c_a2_told c_a2_weight c_a2_count c_a2_found c_a2_cost c_a2_least c_a2_prefer c_a2_next c_a2_firstWorth c_a2_secondWorth c_a2_stand c_a2_served c_a2_points c_a2_can c_a2_ring c_a2_ways c_a2_leftOf c_a2_ate c_a2_eats v3
      else if (t2 &&& (31 : Int32)) = 5 then
        f_L_law_309 N L c_a0 (f_L_law_18 N L c_a0 n) c_a1_above c_a1_below c_a1_board_askers c_a1_board_places c_a1_board_age c_a1_board_seats c_a1_board_wishes c_a1_board_likes c_a1_board_told c_a1_all_slots c_a1_all_askers c_a1_all_places c_a1_all_seatBits c_a1_all_entries c_a1_all_gains c_a1_all_solvedGains c_a1_all_left c_a1_all_best c_a1_all_ways c_a1_all_next c_a1_all_firstOf c_a1_all_clipAll c_a1_all_clipToOne c_a1_all_clipToTwo c_a1_steady_askers c_a1_steady_places c_a1_steady_seatBits c_a1_steady_entries c_a1_steady_gains c_a1_steady_solvedGains c_a1_steady_left c_a1_steady_best c_a1_steady_ways c_a1_steady_next c_a1_steady_firstOf c_a1_steady_clipAll c_a1_steady_clipToOne c_a1_steady_clipToTwo c_a1_aimed_askers c_a1_aimed_places c_a1_aimed_seatBits c_a1_aimed_entries c_a1_aimed_gains c_a1_aimed_solvedGains c_a1_aimed_left c_a1_aimed_best c_a1_aimed_ways c_a1_aimed_next c_a1_aimed_firstOf c_a1_aimed_clipAll c_a1_aimed_clipToOne c_a1_aimed_clipToTwo c_a1_steadiness_most c_a1_steadiness_tight c_a1_steadiness_firsts c_a1_trade_gets c_a1_trade_servedIn c_a1_trade_holds c_a1_trade_pointsAt c_a1_trade_holderOf c_a1_ring_length c_a1_ring_members c_a1_ring_wants c_a1_lots_age c_a1_lots_runs c_a1_lots_wanting c_a1_lots_wanted c_a1_lots_answers c_a1_lots_memoKeys c_a1_lots_memos c_a1_eating_whole c_a1_eating_time c_a1_eating_eaten c_a1_eating_rest c_a1_eating_eatsAt c_a1_eating_eaters c_a1_row c_a2_askers c_a2_places c_a2_above c_a2_below c_a2_full c_a2_firsts c_a2_freed c_a2_whole c_a2_seats c_a2_wish c_a2_told c_a2_weight c_a2_count c_a2_found c_a2_cost c_a2_least c_a2_prefer c_a2_next c_a2_firstWorth c_a2_secondWorth c_a2_stand c_a2_served c_a2_points c_a2_can c_a2_ring c_a2_ways c_a2_leftOf c_a2_ate c_a2_eats v3
      else if (t2 &&& (31 : Int32)) = 6 then
        f_L_law_323 N L c_a0 (f_L_law_18 N L c_a0 n) c_a1_above c_a1_below c_a1_board_askers c_a1_board_places c_a1_board_age c_a1_board_seats c_a1_board_wishes c_a1_board_likes c_a1_board_told c_a1_all_slots c_a1_all_askers c_a1_all_places c_a1_all_seatBits c_a1_all_entries c_a1_all_gains c_a1_all_solvedGains c_a1_all_left c_a1_all_best c_a1_all_ways c_a1_all_next c_a1_all_firstOf c_a1_all_clipAll c_a1_all_clipToOne c_a1_all_clipToTwo c_a1_steady_askers c_a1_steady_places c_a1_steady_seatBits c_a1_steady_entries c_a1_steady_gains c_a1_steady_solvedGains c_a1_steady_left c_a1_steady_best c_a1_steady_ways c_a1_steady_next c_a1_steady_firstOf c_a1_steady_clipAll c_a1_steady_clipToOne c_a1_steady_clipToTwo c_a1_aimed_askers c_a1_aimed_places c_a1_aimed_seatBits c_a1_aimed_entries c_a1_aimed_gains c_a1_aimed_solvedGains c_a1_aimed_left c_a1_aimed_best c_a1_aimed_ways c_a1_aimed_next c_a1_aimed_firstOf c_a1_aimed_clipAll c_a1_aimed_clipToOne c_a1_aimed_clipToTwo c_a1_steadiness_most c_a1_steadiness_tight c_a1_steadiness_firsts c_a1_trade_gets c_a1_trade_servedIn c_a1_trade_holds c_a1_trade_pointsAt c_a1_trade_holderOf c_a1_ring_length c_a1_ring_members c_a1_ring_wants c_a1_lots_age c_a1_lots_runs c_a1_lots_wanting c_a1_lots_wanted c_a1_lots_answers c_a1_lots_memoKeys c_a1_lots_memos c_a1_eating_whole c_a1_eating_time c_a1_eating_eaten c_a1_eating_rest c_a1_eating_eatsAt c_a1_eating_eaters c_a1_row c_a2_askers c_a2_places c_a2_above c_a2_below c_a2_full c_a2_firsts c_a2_freed c_a2_whole c_a2_seats c_a2_wish c_a2_told c_a2_weight c_a2_count c_a2_found c_a2_cost c_a2_least c_a2_prefer c_a2_next c_a2_firstWorth c_a2_secondWorth c_a2_stand c_a2_served c_a2_points c_a2_can c_a2_ring c_a2_ways c_a2_leftOf c_a2_ate c_a2_eats v3
      else if (t2 &&& (31 : Int32)) = 7 then
        f_L_law_386 N L c_a0 (f_L_law_18 N L c_a0 n) c_a1_above c_a1_below c_a1_board_askers c_a1_board_places c_a1_board_age c_a1_board_seats c_a1_board_wishes c_a1_board_likes c_a1_board_told c_a1_all_slots c_a1_all_askers c_a1_all_places c_a1_all_seatBits c_a1_all_entries c_a1_all_gains c_a1_all_solvedGains c_a1_all_left c_a1_all_best c_a1_all_ways c_a1_all_next c_a1_all_firstOf c_a1_all_clipAll c_a1_all_clipToOne c_a1_all_clipToTwo c_a1_steady_askers c_a1_steady_places c_a1_steady_seatBits c_a1_steady_entries c_a1_steady_gains c_a1_steady_solvedGains c_a1_steady_left c_a1_steady_best c_a1_steady_ways c_a1_steady_next c_a1_steady_firstOf c_a1_steady_clipAll c_a1_steady_clipToOne c_a1_steady_clipToTwo c_a1_aimed_askers c_a1_aimed_places c_a1_aimed_seatBits c_a1_aimed_entries c_a1_aimed_gains c_a1_aimed_solvedGains c_a1_aimed_left c_a1_aimed_best c_a1_aimed_ways c_a1_aimed_next c_a1_aimed_firstOf c_a1_aimed_clipAll c_a1_aimed_clipToOne c_a1_aimed_clipToTwo c_a1_steadiness_most c_a1_steadiness_tight c_a1_steadiness_firsts c_a1_trade_gets c_a1_trade_servedIn c_a1_trade_holds c_a1_trade_pointsAt c_a1_trade_holderOf c_a1_ring_length c_a1_ring_members c_a1_ring_wants c_a1_lots_age c_a1_lots_runs c_a1_lots_wanting c_a1_lots_wanted c_a1_lots_answers c_a1_lots_memoKeys c_a1_lots_memos c_a1_eating_whole c_a1_eating_time c_a1_eating_eaten c_a1_eating_rest c_a1_eating_eatsAt c_a1_eating_eaters c_a1_row c_a2_askers c_a2_places c_a2_above c_a2_below c_a2_full c_a2_firsts c_a2_freed c_a2_whole c_a2_seats c_a2_wish c_a2_told c_a2_weight c_a2_count c_a2_found c_a2_cost c_a2_least c_a2_prefer c_a2_next c_a2_firstWorth c_a2_secondWorth c_a2_stand c_a2_served c_a2_points c_a2_can c_a2_ring c_a2_ways c_a2_leftOf c_a2_ate c_a2_eats v3
      else if (t2 &&& (31 : Int32)) = 8 then
        f_L_law_429 N L c_a0 (f_L_law_18 N L c_a0 n) c_a1_above c_a1_below c_a1_board_askers c_a1_board_places c_a1_board_age c_a1_board_seats c_a1_board_wishes c_a1_board_likes c_a1_board_told c_a1_all_slots c_a1_all_askers c_a1_all_places c_a1_all_seatBits c_a1_all_entries c_a1_all_gains c_a1_all_solvedGains c_a1_all_left c_a1_all_best c_a1_all_ways c_a1_all_next c_a1_all_firstOf c_a1_all_clipAll c_a1_all_clipToOne c_a1_all_clipToTwo c_a1_steady_askers c_a1_steady_places c_a1_steady_seatBits c_a1_steady_entries c_a1_steady_gains c_a1_steady_solvedGains c_a1_steady_left c_a1_steady_best c_a1_steady_ways c_a1_steady_next c_a1_steady_firstOf c_a1_steady_clipAll c_a1_steady_clipToOne c_a1_steady_clipToTwo c_a1_aimed_askers c_a1_aimed_places c_a1_aimed_seatBits c_a1_aimed_entries c_a1_aimed_gains c_a1_aimed_solvedGains c_a1_aimed_left c_a1_aimed_best c_a1_aimed_ways c_a1_aimed_next c_a1_aimed_firstOf c_a1_aimed_clipAll c_a1_aimed_clipToOne c_a1_aimed_clipToTwo c_a1_steadiness_most c_a1_steadiness_tight c_a1_steadiness_firsts c_a1_trade_gets c_a1_trade_servedIn c_a1_trade_holds c_a1_trade_pointsAt c_a1_trade_holderOf c_a1_ring_length c_a1_ring_members c_a1_ring_wants c_a1_lots_age c_a1_lots_runs c_a1_lots_wanting c_a1_lots_wanted c_a1_lots_answers c_a1_lots_memoKeys c_a1_lots_memos c_a1_eating_whole c_a1_eating_time c_a1_eating_eaten c_a1_eating_rest c_a1_eating_eatsAt c_a1_eating_eaters c_a1_row c_a2_askers c_a2_places c_a2_above c_a2_below c_a2_full c_a2_firsts c_a2_freed c_a2_whole c_a2_seats c_a2_wish c_a2_told c_a2_weight c_a2_count c_a2_found c_a2_cost c_a2_least c_a2_prefer c_a2_next c_a2_firstWorth c_a2_secondWorth c_a2_stand c_a2_served c_a2_points c_a2_can c_a2_ring c_a2_ways c_a2_leftOf c_a2_ate c_a2_eats v3
      else if (t2 &&& (31 : Int32)) = 9 then
        f_L_law_462 N L c_a0 (f_L_law_18 N L c_a0 n) c_a1_above c_a1_below c_a1_board_askers c_a1_board_places c_a1_board_age c_a1_board_seats c_a1_board_wishes c_a1_board_likes c_a1_board_told c_a1_all_slots c_a1_all_askers c_a1_all_places c_a1_all_seatBits c_a1_all_entries c_a1_all_gains c_a1_all_solvedGains c_a1_all_left c_a1_all_best c_a1_all_ways c_a1_all_next c_a1_all_firstOf c_a1_all_clipAll c_a1_all_clipToOne c_a1_all_clipToTwo c_a1_steady_askers c_a1_steady_places c_a1_steady_seatBits c_a1_steady_entries c_a1_steady_gains c_a1_steady_solvedGains c_a1_steady_left c_a1_steady_best c_a1_steady_ways c_a1_steady_next c_a1_steady_firstOf c_a1_steady_clipAll c_a1_steady_clipToOne c_a1_steady_clipToTwo c_a1_aimed_askers c_a1_aimed_places c_a1_aimed_seatBits c_a1_aimed_entries c_a1_aimed_gains c_a1_aimed_solvedGains c_a1_aimed_left c_a1_aimed_best c_a1_aimed_ways c_a1_aimed_next c_a1_aimed_firstOf c_a1_aimed_clipAll c_a1_aimed_clipToOne c_a1_aimed_clipToTwo c_a1_steadiness_most c_a1_steadiness_tight c_a1_steadiness_firsts c_a1_trade_gets c_a1_trade_servedIn c_a1_trade_holds c_a1_trade_pointsAt c_a1_trade_holderOf c_a1_ring_length c_a1_ring_members c_a1_ring_wants c_a1_lots_age c_a1_lots_runs c_a1_lots_wanting c_a1_lots_wanted c_a1_lots_answers c_a1_lots_memoKeys c_a1_lots_memos c_a1_eating_whole c_a1_eating_time c_a1_eating_eaten c_a1_eating_rest c_a1_eating_eatsAt c_a1_eating_eaters c_a1_row c_a2_askers c_a2_places c_a2_above c_a2_below c_a2_full c_a2_firsts c_a2_freed c_a2_whole c_a2_seats c_a2_wish c_a2_told c_a2_weight c_a2_count c_a2_found c_a2_cost c_a2_least c_a2_prefer c_a2_next c_a2_firstWorth c_a2_secondWorth c_a2_stand c_a2_served c_a2_points c_a2_can c_a2_ring c_a2_ways c_a2_leftOf c_a2_ate c_a2_eats v3
      else if (t2 &&& (31 : Int32)) = 10 then
        f_L_law_495 N L c_a0 (f_L_law_18 N L c_a0 n) c_a1_above c_a1_below c_a1_board_askers c_a1_board_places c_a1_board_age c_a1_board_seats c_a1_board_wishes c_a1_board_likes c_a1_board_told c_a1_all_slots c_a1_all_askers c_a1_all_places c_a1_all_seatBits c_a1_all_entries c_a1_all_gains c_a1_all_solvedGains c_a1_all_left c_a1_all_best c_a1_all_ways c_a1_all_next c_a1_all_firstOf c_a1_all_clipAll c_a1_all_clipToOne c_a1_all_clipToTwo c_a1_steady_askers c_a1_steady_places c_a1_steady_seatBits c_a1_steady_entries c_a1_steady_gains c_a1_steady_solvedGains c_a1_steady_left c_a1_steady_best c_a1_steady_ways c_a1_steady_next c_a1_steady_firstOf c_a1_steady_clipAll c_a1_steady_clipToOne c_a1_steady_clipToTwo c_a1_aimed_askers c_a1_aimed_places c_a1_aimed_seatBits c_a1_aimed_entries c_a1_aimed_gains c_a1_aimed_solvedGains c_a1_aimed_left c_a1_aimed_best c_a1_aimed_ways c_a1_aimed_next c_a1_aimed_firstOf c_a1_aimed_clipAll c_a1_aimed_clipToOne c_a1_aimed_clipToTwo c_a1_steadiness_most c_a1_steadiness_tight c_a1_steadiness_firsts c_a1_trade_gets c_a1_trade_servedIn c_a1_trade_holds c_a1_trade_pointsAt c_a1_trade_holderOf c_a1_ring_length c_a1_ring_members c_a1_ring_wants c_a1_lots_age c_a1_lots_runs c_a1_lots_wanting c_a1_lots_wanted c_a1_lots_answers c_a1_lots_memoKeys c_a1_lots_memos c_a1_eating_whole c_a1_eating_time c_a1_eating_eaten c_a1_eating_rest c_a1_eating_eatsAt c_a1_eating_eaters c_a1_row c_a2_askers c_a2_places c_a2_above c_a2_below c_a2_full c_a2_firsts c_a2_freed c_a2_whole c_a2_seats c_a2_wish c_a2_told c_a2_weight c_a2_count c_a2_found c_a2_cost c_a2_least c_a2_prefer c_a2_next c_a2_firstWorth c_a2_secondWorth c_a2_stand c_a2_served c_a2_points c_a2_can c_a2_ring c_a2_ways c_a2_leftOf c_a2_ate c_a2_eats v3
      else if (t2 &&& (31 : Int32)) = 11 then
        f_L_law_519 N L c_a0 (f_L_law_18 N L c_a0 n) c_a1_above c_a1_below c_a1_board_askers c_a1_board_places c_a1_board_age c_a1_board_seats c_a1_board_wishes c_a1_board_likes c_a1_board_told c_a1_all_slots c_a1_all_askers c_a1_all_places c_a1_all_seatBits c_a1_all_entries c_a1_all_gains c_a1_all_solvedGains c_a1_all_left c_a1_all_best c_a1_all_ways c_a1_all_next c_a1_all_firstOf c_a1_all_clipAll c_a1_all_clipToOne c_a1_all_clipToTwo c_a1_steady_askers c_a1_steady_places c_a1_steady_seatBits c_a1_steady_entries c_a1_steady_gains c_a1_steady_solvedGains c_a1_steady_left c_a1_steady_best c_a1_steady_ways c_a1_steady_next c_a1_steady_firstOf c_a1_steady_clipAll c_a1_steady_clipToOne c_a1_steady_clipToTwo c_a1_aimed_askers c_a1_aimed_places c_a1_aimed_seatBits c_a1_aimed_entries c_a1_aimed_gains c_a1_aimed_solvedGains c_a1_aimed_left c_a1_aimed_best c_a1_aimed_ways c_a1_aimed_next c_a1_aimed_firstOf c_a1_aimed_clipAll c_a1_aimed_clipToOne c_a1_aimed_clipToTwo c_a1_steadiness_most c_a1_steadiness_tight c_a1_steadiness_firsts c_a1_trade_gets c_a1_trade_servedIn c_a1_trade_holds c_a1_trade_pointsAt c_a1_trade_holderOf c_a1_ring_length c_a1_ring_members c_a1_ring_wants c_a1_lots_age c_a1_lots_runs c_a1_lots_wanting c_a1_lots_wanted c_a1_lots_answers c_a1_lots_memoKeys c_a1_lots_memos c_a1_eating_whole c_a1_eating_time c_a1_eating_eaten c_a1_eating_rest c_a1_eating_eatsAt c_a1_eating_eaters c_a1_row c_a2_askers c_a2_places c_a2_above c_a2_below c_a2_full c_a2_firsts c_a2_freed c_a2_whole c_a2_seats c_a2_wish c_a2_told c_a2_weight c_a2_count c_a2_found c_a2_cost c_a2_least c_a2_prefer c_a2_next c_a2_firstWorth c_a2_secondWorth c_a2_stand c_a2_served c_a2_points c_a2_can c_a2_ring c_a2_ways c_a2_leftOf c_a2_ate c_a2_eats v3
      else if (t2 &&& (31 : Int32)) = 12 then
        f_L_law_552 N L c_a0 (f_L_law_18 N L c_a0 n) c_a1_above c_a1_below c_a1_board_askers c_a1_board_places c_a1_board_age c_a1_board_seats c_a1_board_wishes c_a1_board_likes c_a1_board_told c_a1_all_slots c_a1_all_askers c_a1_all_places c_a1_all_seatBits c_a1_all_entries c_a1_all_gains c_a1_all_solvedGains c_a1_all_left c_a1_all_best c_a1_all_ways c_a1_all_next c_a1_all_firstOf c_a1_all_clipAll c_a1_all_clipToOne c_a1_all_clipToTwo c_a1_steady_askers c_a1_steady_places c_a1_steady_seatBits c_a1_steady_entries c_a1_steady_gains c_a1_steady_solvedGains c_a1_steady_left c_a1_steady_best c_a1_steady_ways c_a1_steady_next c_a1_steady_firstOf c_a1_steady_clipAll c_a1_steady_clipToOne c_a1_steady_clipToTwo c_a1_aimed_askers c_a1_aimed_places c_a1_aimed_seatBits c_a1_aimed_entries c_a1_aimed_gains c_a1_aimed_solvedGains c_a1_aimed_left c_a1_aimed_best c_a1_aimed_ways c_a1_aimed_next c_a1_aimed_firstOf c_a1_aimed_clipAll c_a1_aimed_clipToOne c_a1_aimed_clipToTwo c_a1_steadiness_most c_a1_steadiness_tight c_a1_steadiness_firsts c_a1_trade_gets c_a1_trade_servedIn c_a1_trade_holds c_a1_trade_pointsAt c_a1_trade_holderOf c_a1_ring_length c_a1_ring_members c_a1_ring_wants c_a1_lots_age c_a1_lots_runs c_a1_lots_wanting c_a1_lots_wanted c_a1_lots_answers c_a1_lots_memoKeys c_a1_lots_memos c_a1_eating_whole c_a1_eating_time c_a1_eating_eaten c_a1_eating_rest c_a1_eating_eatsAt c_a1_eating_eaters c_a1_row c_a2_askers c_a2_places c_a2_above c_a2_below c_a2_full c_a2_firsts c_a2_freed c_a2_whole c_a2_seats c_a2_wish c_a2_told c_a2_weight c_a2_count c_a2_found c_a2_cost c_a2_least c_a2_prefer c_a2_next c_a2_firstWorth c_a2_secondWorth c_a2_stand c_a2_served c_a2_points c_a2_can c_a2_ring c_a2_ways c_a2_leftOf c_a2_ate c_a2_eats v3
      else if (t2 &&& (31 : Int32)) = 13 then
        f_L_law_585 N L c_a0 (f_L_law_18 N L c_a0 n) c_a1_above c_a1_below c_a1_board_askers c_a1_board_places c_a1_board_age c_a1_board_seats c_a1_board_wishes c_a1_board_likes c_a1_board_told c_a1_all_slots c_a1_all_askers c_a1_all_places c_a1_all_seatBits c_a1_all_entries c_a1_all_gains c_a1_all_solvedGains c_a1_all_left c_a1_all_best c_a1_all_ways c_a1_all_next c_a1_all_firstOf c_a1_all_clipAll c_a1_all_clipToOne c_a1_all_clipToTwo c_a1_steady_askers c_a1_steady_places c_a1_steady_seatBits c_a1_steady_entries c_a1_steady_gains c_a1_steady_solvedGains c_a1_steady_left c_a1_steady_best c_a1_steady_ways c_a1_steady_next c_a1_steady_firstOf c_a1_steady_clipAll c_a1_steady_clipToOne c_a1_steady_clipToTwo c_a1_aimed_askers c_a1_aimed_places c_a1_aimed_seatBits c_a1_aimed_entries c_a1_aimed_gains c_a1_aimed_solvedGains c_a1_aimed_left c_a1_aimed_best c_a1_aimed_ways c_a1_aimed_next c_a1_aimed_firstOf c_a1_aimed_clipAll c_a1_aimed_clipToOne c_a1_aimed_clipToTwo c_a1_steadiness_most c_a1_steadiness_tight c_a1_steadiness_firsts c_a1_trade_gets c_a1_trade_servedIn c_a1_trade_holds c_a1_trade_pointsAt c_a1_trade_holderOf c_a1_ring_length c_a1_ring_members c_a1_ring_wants c_a1_lots_age c_a1_lots_runs c_a1_lots_wanting c_a1_lots_wanted c_a1_lots_answers c_a1_lots_memoKeys c_a1_lots_memos c_a1_eating_whole c_a1_eating_time c_a1_eating_eaten c_a1_eating_rest c_a1_eating_eatsAt c_a1_eating_eaters c_a1_row c_a2_askers c_a2_places c_a2_above c_a2_below c_a2_full c_a2_firsts c_a2_freed c_a2_whole c_a2_seats c_a2_wish c_a2_told c_a2_weight c_a2_count c_a2_found c_a2_cost c_a2_least c_a2_prefer c_a2_next c_a2_firstWorth c_a2_secondWorth c_a2_stand c_a2_served c_a2_points c_a2_can c_a2_ring c_a2_ways c_a2_leftOf c_a2_ate c_a2_eats v3
      else if (t2 &&& (31 : Int32)) = 14 then
        f_L_law_608 N L c_a0 (f_L_law_18 N L c_a0 n) c_a1_above c_a1_below c_a1_board_askers c_a1_board_places c_a1_board_age c_a1_board_seats c_a1_board_wishes c_a1_board_likes c_a1_board_told c_a1_all_slots c_a1_all_askers c_a1_all_places c_a1_all_seatBits c_a1_all_entries c_a1_all_gains c_a1_all_solvedGains c_a1_all_left c_a1_all_best c_a1_all_ways c_a1_all_next c_a1_all_firstOf c_a1_all_clipAll c_a1_all_clipToOne c_a1_all_clipToTwo c_a1_steady_askers c_a1_steady_places c_a1_steady_seatBits c_a1_steady_entries c_a1_steady_gains c_a1_steady_solvedGains c_a1_steady_left c_a1_steady_best c_a1_steady_ways c_a1_steady_next c_a1_steady_firstOf c_a1_steady_clipAll c_a1_steady_clipToOne c_a1_steady_clipToTwo c_a1_aimed_askers c_a1_aimed_places c_a1_aimed_seatBits c_a1_aimed_entries c_a1_aimed_gains c_a1_aimed_solvedGains c_a1_aimed_left c_a1_aimed_best c_a1_aimed_ways c_a1_aimed_next c_a1_aimed_firstOf c_a1_aimed_clipAll c_a1_aimed_clipToOne c_a1_aimed_clipToTwo c_a1_steadiness_most c_a1_steadiness_tight c_a1_steadiness_firsts c_a1_trade_gets c_a1_trade_servedIn c_a1_trade_holds c_a1_trade_pointsAt c_a1_trade_holderOf c_a1_ring_length c_a1_ring_members c_a1_ring_wants c_a1_lots_age c_a1_lots_runs c_a1_lots_wanting c_a1_lots_wanted c_a1_lots_answers c_a1_lots_memoKeys c_a1_lots_memos c_a1_eating_whole c_a1_eating_time c_a1_eating_eaten c_a1_eating_rest c_a1_eating_eatsAt c_a1_eating_eaters c_a1_row c_a2_askers c_a2_places c_a2_above c_a2_below c_a2_full c_a2_firsts c_a2_freed c_a2_whole c_a2_seats c_a2_wish c_a2_told c_a2_weight c_a2_count c_a2_found c_a2_cost c_a2_least c_a2_prefer c_a2_next c_a2_firstWorth c_a2_secondWorth c_a2_stand c_a2_served c_a2_points c_a2_can c_a2_ring c_a2_ways c_a2_leftOf c_a2_ate c_a2_eats v3
      else if (t2 &&& (31 : Int32)) = 15 then
        f_L_law_641 N L c_a0 (f_L_law_18 N L c_a0 n) c_a1_above c_a1_below c_a1_board_askers c_a1_board_places c_a1_board_age c_a1_board_seats c_a1_board_wishes c_a1_board_likes c_a1_board_told c_a1_all_slots c_a1_all_askers c_a1_all_places c_a1_all_seatBits c_a1_all_entries c_a1_all_gains c_a1_all_solvedGains c_a1_all_left c_a1_all_best c_a1_all_ways c_a1_all_next c_a1_all_firstOf c_a1_all_clipAll c_a1_all_clipToOne c_a1_all_clipToTwo c_a1_steady_askers c_a1_steady_places c_a1_steady_seatBits c_a1_steady_entries c_a1_steady_gains c_a1_steady_solvedGains c_a1_steady_left c_a1_steady_best c_a1_steady_ways c_a1_steady_next c_a1_steady_firstOf c_a1_steady_clipAll c_a1_steady_clipToOne c_a1_steady_clipToTwo c_a1_aimed_askers c_a1_aimed_places c_a1_aimed_seatBits c_a1_aimed_entries c_a1_aimed_gains c_a1_aimed_solvedGains c_a1_aimed_left c_a1_aimed_best c_a1_aimed_ways c_a1_aimed_next c_a1_aimed_firstOf c_a1_aimed_clipAll c_a1_aimed_clipToOne c_a1_aimed_clipToTwo c_a1_steadiness_most c_a1_steadiness_tight c_a1_steadiness_firsts c_a1_trade_gets c_a1_trade_servedIn c_a1_trade_holds c_a1_trade_pointsAt c_a1_trade_holderOf c_a1_ring_length c_a1_ring_members c_a1_ring_wants c_a1_lots_age c_a1_lots_runs c_a1_lots_wanting c_a1_lots_wanted c_a1_lots_answers c_a1_lots_memoKeys c_a1_lots_memos c_a1_eating_whole c_a1_eating_time c_a1_eating_eaten c_a1_eating_rest c_a1_eating_eatsAt c_a1_eating_eaters c_a1_row c_a2_askers c_a2_places c_a2_above c_a2_below c_a2_full c_a2_firsts c_a2_freed c_a2_whole c_a2_seats c_a2_wish c_a2_told c_a2_weight c_a2_count c_a2_found c_a2_cost c_a2_least c_a2_prefer c_a2_next c_a2_firstWorth c_a2_secondWorth c_a2_stand c_a2_served c_a2_points c_a2_can c_a2_ring c_a2_ways c_a2_leftOf c_a2_ate c_a2_eats v3
      else if (t2 &&& (31 : Int32)) = 16 then
        f_L_law_664 N L c_a0 (f_L_law_18 N L c_a0 n) c_a1_above c_a1_below c_a1_board_askers c_a1_board_places c_a1_board_age c_a1_board_seats c_a1_board_wishes c_a1_board_likes c_a1_board_told c_a1_all_slots c_a1_all_askers c_a1_all_places c_a1_all_seatBits c_a1_all_entries c_a1_all_gains c_a1_all_solvedGains c_a1_all_left c_a1_all_best c_a1_all_ways c_a1_all_next c_a1_all_firstOf c_a1_all_clipAll c_a1_all_clipToOne c_a1_all_clipToTwo c_a1_steady_askers c_a1_steady_places c_a1_steady_seatBits c_a1_steady_entries c_a1_steady_gains c_a1_steady_solvedGains c_a1_steady_left c_a1_steady_best c_a1_steady_ways c_a1_steady_next c_a1_steady_firstOf c_a1_steady_clipAll c_a1_steady_clipToOne c_a1_steady_clipToTwo c_a1_aimed_askers c_a1_aimed_places c_a1_aimed_seatBits c_a1_aimed_entries c_a1_aimed_gains c_a1_aimed_solvedGains c_a1_aimed_left c_a1_aimed_best c_a1_aimed_ways c_a1_aimed_next c_a1_aimed_firstOf c_a1_aimed_clipAll c_a1_aimed_clipToOne c_a1_aimed_clipToTwo c_a1_steadiness_most c_a1_steadiness_tight c_a1_steadiness_firsts c_a1_trade_gets c_a1_trade_servedIn c_a1_trade_holds c_a1_trade_pointsAt c_a1_trade_holderOf c_a1_ring_length c_a1_ring_members c_a1_ring_wants c_a1_lots_age c_a1_lots_runs c_a1_lots_wanting c_a1_lots_wanted c_a1_lots_answers c_a1_lots_memoKeys c_a1_lots_memos c_a1_eating_whole c_a1_eating_time c_a1_eating_eaten c_a1_eating_rest c_a1_eating_eatsAt c_a1_eating_eaters c_a1_row c_a2_askers c_a2_places c_a2_above c_a2_below c_a2_full c_a2_firsts c_a2_freed c_a2_whole c_a2_seats c_a2_wish c_a2_told c_a2_weight c_a2_count c_a2_found c_a2_cost c_a2_least c_a2_prefer c_a2_next c_a2_firstWorth c_a2_secondWorth c_a2_stand c_a2_served c_a2_points c_a2_can c_a2_ring c_a2_ways c_a2_leftOf c_a2_ate c_a2_eats v3
      else if (t2 &&& (31 : Int32)) = 17 then
        f_L_law_688 N L c_a0 (f_L_law_18 N L c_a0 n) c_a1_above c_a1_below c_a1_board_askers c_a1_board_places c_a1_board_age c_a1_board_seats c_a1_board_wishes c_a1_board_likes c_a1_board_told c_a1_all_slots c_a1_all_askers c_a1_all_places c_a1_all_seatBits c_a1_all_entries c_a1_all_gains c_a1_all_solvedGains c_a1_all_left c_a1_all_best c_a1_all_ways c_a1_all_next c_a1_all_firstOf c_a1_all_clipAll c_a1_all_clipToOne c_a1_all_clipToTwo c_a1_steady_askers c_a1_steady_places c_a1_steady_seatBits c_a1_steady_entries c_a1_steady_gains c_a1_steady_solvedGains c_a1_steady_left c_a1_steady_best c_a1_steady_ways c_a1_steady_next c_a1_steady_firstOf c_a1_steady_clipAll c_a1_steady_clipToOne c_a1_steady_clipToTwo c_a1_aimed_askers c_a1_aimed_places c_a1_aimed_seatBits c_a1_aimed_entries c_a1_aimed_gains c_a1_aimed_solvedGains c_a1_aimed_left c_a1_aimed_best c_a1_aimed_ways c_a1_aimed_next c_a1_aimed_firstOf c_a1_aimed_clipAll c_a1_aimed_clipToOne c_a1_aimed_clipToTwo c_a1_steadiness_most c_a1_steadiness_tight c_a1_steadiness_firsts c_a1_trade_gets c_a1_trade_servedIn c_a1_trade_holds c_a1_trade_pointsAt c_a1_trade_holderOf c_a1_ring_length c_a1_ring_members c_a1_ring_wants c_a1_lots_age c_a1_lots_runs c_a1_lots_wanting c_a1_lots_wanted c_a1_lots_answers c_a1_lots_memoKeys c_a1_lots_memos c_a1_eating_whole c_a1_eating_time c_a1_eating_eaten c_a1_eating_rest c_a1_eating_eatsAt c_a1_eating_eaters c_a1_row c_a2_askers c_a2_places c_a2_above c_a2_below c_a2_full c_a2_firsts c_a2_freed c_a2_whole c_a2_seats c_a2_wish c_a2_told c_a2_weight c_a2_count c_a2_found c_a2_cost c_a2_least c_a2_prefer c_a2_next c_a2_firstWorth c_a2_secondWorth c_a2_stand c_a2_served c_a2_points c_a2_can c_a2_ring c_a2_ways c_a2_leftOf c_a2_ate c_a2_eats v3
      else if (t2 &&& (31 : Int32)) = 18 then
        f_L_law_711 N L c_a0 (f_L_law_18 N L c_a0 n) c_a1_above c_a1_below c_a1_board_askers c_a1_board_places c_a1_board_age c_a1_board_seats c_a1_board_wishes c_a1_board_likes c_a1_board_told c_a1_all_slots c_a1_all_askers c_a1_all_places c_a1_all_seatBits c_a1_all_entries c_a1_all_gains c_a1_all_solvedGains c_a1_all_left c_a1_all_best c_a1_all_ways c_a1_all_next c_a1_all_firstOf c_a1_all_clipAll c_a1_all_clipToOne c_a1_all_clipToTwo c_a1_steady_askers c_a1_steady_places c_a1_steady_seatBits c_a1_steady_entries c_a1_steady_gains c_a1_steady_solvedGains c_a1_steady_left c_a1_steady_best c_a1_steady_ways c_a1_steady_next c_a1_steady_firstOf c_a1_steady_clipAll c_a1_steady_clipToOne c_a1_steady_clipToTwo c_a1_aimed_askers c_a1_aimed_places c_a1_aimed_seatBits c_a1_aimed_entries c_a1_aimed_gains c_a1_aimed_solvedGains c_a1_aimed_left c_a1_aimed_best c_a1_aimed_ways c_a1_aimed_next c_a1_aimed_firstOf c_a1_aimed_clipAll c_a1_aimed_clipToOne c_a1_aimed_clipToTwo c_a1_steadiness_most c_a1_steadiness_tight c_a1_steadiness_firsts c_a1_trade_gets c_a1_trade_servedIn c_a1_trade_holds c_a1_trade_pointsAt c_a1_trade_holderOf c_a1_ring_length c_a1_ring_members c_a1_ring_wants c_a1_lots_age c_a1_lots_runs c_a1_lots_wanting c_a1_lots_wanted c_a1_lots_answers c_a1_lots_memoKeys c_a1_lots_memos c_a1_eating_whole c_a1_eating_time c_a1_eating_eaten c_a1_eating_rest c_a1_eating_eatsAt c_a1_eating_eaters c_a1_row c_a2_askers c_a2_places c_a2_above c_a2_below c_a2_full c_a2_firsts c_a2_freed c_a2_whole c_a2_seats c_a2_wish c_a2_told c_a2_weight c_a2_count c_a2_found c_a2_cost c_a2_least c_a2_prefer c_a2_next c_a2_firstWorth c_a2_secondWorth c_a2_stand c_a2_served c_a2_points c_a2_can c_a2_ring c_a2_ways c_a2_leftOf c_a2_ate c_a2_eats v3
      else if (t2 &&& (31 : Int32)) = 19 then
        f_L_law_725 N L c_a0 (f_L_law_18 N L c_a0 n) c_a1_above c_a1_below c_a1_board_askers c_a1_board_places c_a1_board_age c_a1_board_seats c_a1_board_wishes c_a1_board_likes c_a1_board_told c_a1_all_slots c_a1_all_askers c_a1_all_places c_a1_all_seatBits c_a1_all_entries c_a1_all_gains c_a1_all_solvedGains c_a1_all_left c_a1_all_best c_a1_all_ways c_a1_all_next c_a1_all_firstOf c_a1_all_clipAll c_a1_all_clipToOne c_a1_all_clipToTwo c_a1_steady_askers c_a1_steady_places c_a1_steady_seatBits c_a1_steady_entries c_a1_steady_gains c_a1_steady_solvedGains c_a1_steady_left c_a1_steady_best c_a1_steady_ways c_a1_steady_next c_a1_steady_firstOf c_a1_steady_clipAll c_a1_steady_clipToOne c_a1_steady_clipToTwo c_a1_aimed_askers c_a1_aimed_places c_a1_aimed_seatBits c_a1_aimed_entries c_a1_aimed_gains c_a1_aimed_solvedGains c_a1_aimed_left c_a1_aimed_best c_a1_aimed_ways c_a1_aimed_next c_a1_aimed_firstOf c_a1_aimed_clipAll c_a1_aimed_clipToOne c_a1_aimed_clipToTwo c_a1_steadiness_most c_a1_steadiness_tight c_a1_steadiness_firsts c_a1_trade_gets c_a1_trade_servedIn c_a1_trade_holds c_a1_trade_pointsAt c_a1_trade_holderOf c_a1_ring_length c_a1_ring_members c_a1_ring_wants c_a1_lots_age c_a1_lots_runs c_a1_lots_wanting c_a1_lots_wanted c_a1_lots_answers c_a1_lots_memoKeys c_a1_lots_memos c_a1_eating_whole c_a1_eating_time c_a1_eating_eaten c_a1_eating_rest c_a1_eating_eatsAt c_a1_eating_eaters c_a1_row c_a2_askers c_a2_places c_a2_above c_a2_below c_a2_full c_a2_firsts c_a2_freed c_a2_whole c_a2_seats c_a2_wish c_a2_told c_a2_weight c_a2_count c_a2_found c_a2_cost c_a2_least c_a2_prefer c_a2_next c_a2_firstWorth c_a2_secondWorth c_a2_stand c_a2_served c_a2_points c_a2_can c_a2_ring c_a2_ways c_a2_leftOf c_a2_ate c_a2_eats v3
      else if (t2 &&& (31 : Int32)) = 20 then
        f_L_law_788 N L c_a0 (f_L_law_18 N L c_a0 n) c_a1_above c_a1_below c_a1_board_askers c_a1_board_places c_a1_board_age c_a1_board_seats c_a1_board_wishes c_a1_board_likes c_a1_board_told c_a1_all_slots c_a1_all_askers c_a1_all_places c_a1_all_seatBits c_a1_all_entries c_a1_all_gains c_a1_all_solvedGains c_a1_all_left c_a1_all_best c_a1_all_ways c_a1_all_next c_a1_all_firstOf c_a1_all_clipAll c_a1_all_clipToOne c_a1_all_clipToTwo c_a1_steady_askers c_a1_steady_places c_a1_steady_seatBits c_a1_steady_entries c_a1_steady_gains c_a1_steady_solvedGains c_a1_steady_left c_a1_steady_best c_a1_steady_ways c_a1_steady_next c_a1_steady_firstOf c_a1_steady_clipAll c_a1_steady_clipToOne c_a1_steady_clipToTwo c_a1_aimed_askers c_a1_aimed_places c_a1_aimed_seatBits c_a1_aimed_entries c_a1_aimed_gains c_a1_aimed_solvedGains c_a1_aimed_left c_a1_aimed_best c_a1_aimed_ways c_a1_aimed_next c_a1_aimed_firstOf c_a1_aimed_clipAll c_a1_aimed_clipToOne c_a1_aimed_clipToTwo c_a1_steadiness_most c_a1_steadiness_tight c_a1_steadiness_firsts c_a1_trade_gets c_a1_trade_servedIn c_a1_trade_holds c_a1_trade_pointsAt c_a1_trade_holderOf c_a1_ring_length c_a1_ring_members c_a1_ring_wants c_a1_lots_age c_a1_lots_runs c_a1_lots_wanting c_a1_lots_wanted c_a1_lots_answers c_a1_lots_memoKeys c_a1_lots_memos c_a1_eating_whole c_a1_eating_time c_a1_eating_eaten c_a1_eating_rest c_a1_eating_eatsAt c_a1_eating_eaters c_a1_row c_a2_askers c_a2_places c_a2_above c_a2_below c_a2_full c_a2_firsts c_a2_freed c_a2_whole c_a2_seats c_a2_wish c_a2_told c_a2_weight c_a2_count c_a2_found c_a2_cost c_a2_least c_a2_prefer c_a2_next c_a2_firstWorth c_a2_secondWorth c_a2_stand c_a2_served c_a2_points c_a2_can c_a2_ring c_a2_ways c_a2_leftOf c_a2_ate c_a2_eats v3
      else if (t2 &&& (31 : Int32)) = 21 then
        f_L_law_811 N L c_a0 (f_L_law_18 N L c_a0 n) c_a1_above c_a1_below c_a1_board_askers c_a1_board_places c_a1_board_age c_a1_board_seats c_a1_board_wishes c_a1_board_likes c_a1_board_told c_a1_all_slots c_a1_all_askers c_a1_all_places c_a1_all_seatBits c_a1_all_entries c_a1_all_gains c_a1_all_solvedGains c_a1_all_left c_a1_all_best c_a1_all_ways c_a1_all_next c_a1_all_firstOf c_a1_all_clipAll c_a1_all_clipToOne c_a1_all_clipToTwo c_a1_steady_askers c_a1_steady_places c_a1_steady_seatBits c_a1_steady_entries c_a1_steady_gains c_a1_steady_solvedGains c_a1_steady_left c_a1_steady_best c_a1_steady_ways c_a1_steady_next c_a1_steady_firstOf c_a1_steady_clipAll c_a1_steady_clipToOne c_a1_steady_clipToTwo c_a1_aimed_askers c_a1_aimed_places c_a1_aimed_seatBits c_a1_aimed_entries c_a1_aimed_gains c_a1_aimed_solvedGains c_a1_aimed_left c_a1_aimed_best c_a1_aimed_ways c_a1_aimed_next c_a1_aimed_firstOf c_a1_aimed_clipAll c_a1_aimed_clipToOne c_a1_aimed_clipToTwo c_a1_steadiness_most c_a1_steadiness_tight c_a1_steadiness_firsts c_a1_trade_gets c_a1_trade_servedIn c_a1_trade_holds c_a1_trade_pointsAt c_a1_trade_holderOf c_a1_ring_length c_a1_ring_members c_a1_ring_wants c_a1_lots_age c_a1_lots_runs c_a1_lots_wanting c_a1_lots_wanted c_a1_lots_answers c_a1_lots_memoKeys c_a1_lots_memos c_a1_eating_whole c_a1_eating_time c_a1_eating_eaten c_a1_eating_rest c_a1_eating_eatsAt c_a1_eating_eaters c_a1_row c_a2_askers c_a2_places c_a2_above c_a2_below c_a2_full c_a2_firsts c_a2_freed c_a2_whole c_a2_seats c_a2_wish c_a2_told c_a2_weight c_a2_count c_a2_found c_a2_cost c_a2_least c_a2_prefer c_a2_next c_a2_firstWorth c_a2_secondWorth c_a2_stand c_a2_served c_a2_points c_a2_can c_a2_ring c_a2_ways c_a2_leftOf c_a2_ate c_a2_eats v3
      else if (t2 &&& (31 : Int32)) = 22 then
        f_L_law_844 N L c_a0 (f_L_law_18 N L c_a0 n) c_a1_above c_a1_below c_a1_board_askers c_a1_board_places c_a1_board_age c_a1_board_seats c_a1_board_wishes c_a1_board_likes c_a1_board_told c_a1_all_slots c_a1_all_askers c_a1_all_places c_a1_all_seatBits c_a1_all_entries c_a1_all_gains c_a1_all_solvedGains c_a1_all_left c_a1_all_best c_a1_all_ways c_a1_all_next c_a1_all_firstOf c_a1_all_clipAll c_a1_all_clipToOne c_a1_all_clipToTwo c_a1_steady_askers c_a1_steady_places c_a1_steady_seatBits c_a1_steady_entries c_a1_steady_gains c_a1_steady_solvedGains c_a1_steady_left c_a1_steady_best c_a1_steady_ways c_a1_steady_next c_a1_steady_firstOf c_a1_steady_clipAll c_a1_steady_clipToOne c_a1_steady_clipToTwo c_a1_aimed_askers c_a1_aimed_places c_a1_aimed_seatBits c_a1_aimed_entries c_a1_aimed_gains c_a1_aimed_solvedGains c_a1_aimed_left c_a1_aimed_best c_a1_aimed_ways c_a1_aimed_next c_a1_aimed_firstOf c_a1_aimed_clipAll c_a1_aimed_clipToOne c_a1_aimed_clipToTwo c_a1_steadiness_most c_a1_steadiness_tight c_a1_steadiness_firsts c_a1_trade_gets c_a1_trade_servedIn c_a1_trade_holds c_a1_trade_pointsAt c_a1_trade_holderOf c_a1_ring_length c_a1_ring_members c_a1_ring_wants c_a1_lots_age c_a1_lots_runs c_a1_lots_wanting c_a1_lots_wanted c_a1_lots_answers c_a1_lots_memoKeys c_a1_lots_memos c_a1_eating_whole c_a1_eating_time c_a1_eating_eaten c_a1_eating_rest c_a1_eating_eatsAt c_a1_eating_eaters c_a1_row c_a2_askers c_a2_places c_a2_above c_a2_below c_a2_full c_a2_firsts c_a2_freed c_a2_whole c_a2_seats c_a2_wish c_a2_told c_a2_weight c_a2_count c_a2_found c_a2_cost c_a2_least c_a2_prefer c_a2_next c_a2_firstWorth c_a2_secondWorth c_a2_stand c_a2_served c_a2_points c_a2_can c_a2_ring c_a2_ways c_a2_leftOf c_a2_ate c_a2_eats v3
      else if (t2 &&& (31 : Int32)) = 23 then
        f_L_law_877 N L c_a0 (f_L_law_18 N L c_a0 n) c_a1_above c_a1_below c_a1_board_askers c_a1_board_places c_a1_board_age c_a1_board_seats c_a1_board_wishes c_a1_board_likes c_a1_board_told c_a1_all_slots c_a1_all_askers c_a1_all_places c_a1_all_seatBits c_a1_all_entries c_a1_all_gains c_a1_all_solvedGains c_a1_all_left c_a1_all_best c_a1_all_ways c_a1_all_next c_a1_all_firstOf c_a1_all_clipAll c_a1_all_clipToOne c_a1_all_clipToTwo c_a1_steady_askers c_a1_steady_places c_a1_steady_seatBits c_a1_steady_entries c_a1_steady_gains c_a1_steady_solvedGains c_a1_steady_left c_a1_steady_best c_a1_steady_ways c_a1_steady_next c_a1_steady_firstOf c_a1_steady_clipAll c_a1_steady_clipToOne c_a1_steady_clipToTwo c_a1_aimed_askers c_a1_aimed_places c_a1_aimed_seatBits c_a1_aimed_entries c_a1_aimed_gains c_a1_aimed_solvedGains c_a1_aimed_left c_a1_aimed_best c_a1_aimed_ways c_a1_aimed_next c_a1_aimed_firstOf c_a1_aimed_clipAll c_a1_aimed_clipToOne c_a1_aimed_clipToTwo c_a1_steadiness_most c_a1_steadiness_tight c_a1_steadiness_firsts c_a1_trade_gets c_a1_trade_servedIn c_a1_trade_holds c_a1_trade_pointsAt c_a1_trade_holderOf c_a1_ring_length c_a1_ring_members c_a1_ring_wants c_a1_lots_age c_a1_lots_runs c_a1_lots_wanting c_a1_lots_wanted c_a1_lots_answers c_a1_lots_memoKeys c_a1_lots_memos c_a1_eating_whole c_a1_eating_time c_a1_eating_eaten c_a1_eating_rest c_a1_eating_eatsAt c_a1_eating_eaters c_a1_row c_a2_askers c_a2_places c_a2_above c_a2_below c_a2_full c_a2_firsts c_a2_freed c_a2_whole c_a2_seats c_a2_wish c_a2_told c_a2_weight c_a2_count c_a2_found c_a2_cost c_a2_least c_a2_prefer c_a2_next c_a2_firstWorth c_a2_secondWorth c_a2_stand c_a2_served c_a2_points c_a2_can c_a2_ring c_a2_ways c_a2_leftOf c_a2_ate c_a2_eats v3
      else if (t2 &&& (31 : Int32)) = 24 then
        f_L_law_920 N L c_a0 (f_L_law_18 N L c_a0 n) c_a1_above c_a1_below c_a1_board_askers c_a1_board_places c_a1_board_age c_a1_board_seats c_a1_board_wishes c_a1_board_likes c_a1_board_told c_a1_all_slots c_a1_all_askers c_a1_all_places c_a1_all_seatBits c_a1_all_entries c_a1_all_gains c_a1_all_solvedGains c_a1_all_left c_a1_all_best c_a1_all_ways c_a1_all_next c_a1_all_firstOf c_a1_all_clipAll c_a1_all_clipToOne c_a1_all_clipToTwo c_a1_steady_askers c_a1_steady_places c_a1_steady_seatBits c_a1_steady_entries c_a1_steady_gains c_a1_steady_solvedGains c_a1_steady_left c_a1_steady_best c_a1_steady_ways c_a1_steady_next c_a1_steady_firstOf c_a1_steady_clipAll c_a1_steady_clipToOne c_a1_steady_clipToTwo c_a1_aimed_askers c_a1_aimed_places c_a1_aimed_seatBits c_a1_aimed_entries c_a1_aimed_gains c_a1_aimed_solvedGains c_a1_aimed_left c_a1_aimed_best c_a1_aimed_ways c_a1_aimed_next c_a1_aimed_firstOf c_a1_aimed_clipAll c_a1_aimed_clipToOne c_a1_aimed_clipToTwo c_a1_steadiness_most c_a1_steadiness_tight c_a1_steadiness_firsts c_a1_trade_gets c_a1_trade_servedIn c_a1_trade_holds c_a1_trade_pointsAt c_a1_trade_holderOf c_a1_ring_length c_a1_ring_members c_a1_ring_wants c_a1_lots_age c_a1_lots_runs c_a1_lots_wanting c_a1_lots_wanted c_a1_lots_answers c_a1_lots_memoKeys c_a1_lots_memos c_a1_eating_whole c_a1_eating_time c_a1_eating_eaten c_a1_eating_rest c_a1_eating_eatsAt c_a1_eating_eaters c_a1_row c_a2_askers c_a2_places c_a2_above c_a2_below c_a2_full c_a2_firsts c_a2_freed c_a2_whole c_a2_seats c_a2_wish c_a2_told c_a2_weight c_a2_count c_a2_found c_a2_cost c_a2_least c_a2_prefer c_a2_next c_a2_firstWorth c_a2_secondWorth c_a2_stand c_a2_served c_a2_points c_a2_can c_a2_ring c_a2_ways c_a2_leftOf c_a2_ate c_a2_eats v3
      else if (t2 &&& (31 : Int32)) = 25 then
        f_L_law_953 N L c_a0 (f_L_law_18 N L c_a0 n) c_a1_above c_a1_below c_a1_board_askers c_a1_board_places c_a1_board_age c_a1_board_seats c_a1_board_wishes c_a1_board_likes c_a1_board_told c_a1_all_slots c_a1_all_askers c_a1_all_places c_a1_all_seatBits c_a1_all_entries c_a1_all_gains c_a1_all_solvedGains c_a1_all_left c_a1_all_best c_a1_all_ways c_a1_all_next c_a1_all_firstOf c_a1_all_clipAll c_a1_all_clipToOne c_a1_all_clipToTwo c_a1_steady_askers c_a1_steady_places c_a1_steady_seatBits c_a1_steady_entries c_a1_steady_gains c_a1_steady_solvedGains c_a1_steady_left c_a1_steady_best c_a1_steady_ways c_a1_steady_next c_a1_steady_firstOf c_a1_steady_clipAll c_a1_steady_clipToOne c_a1_steady_clipToTwo c_a1_aimed_askers c_a1_aimed_places c_a1_aimed_seatBits c_a1_aimed_entries c_a1_aimed_gains c_a1_aimed_solvedGains c_a1_aimed_left c_a1_aimed_best c_a1_aimed_ways c_a1_aimed_next c_a1_aimed_firstOf c_a1_aimed_clipAll c_a1_aimed_clipToOne c_a1_aimed_clipToTwo c_a1_steadiness_most c_a1_steadiness_tight c_a1_steadiness_firsts c_a1_trade_gets c_a1_trade_servedIn c_a1_trade_holds c_a1_trade_pointsAt c_a1_trade_holderOf c_a1_ring_length c_a1_ring_members c_a1_ring_wants c_a1_lots_age c_a1_lots_runs c_a1_lots_wanting c_a1_lots_wanted c_a1_lots_answers c_a1_lots_memoKeys c_a1_lots_memos c_a1_eating_whole c_a1_eating_time c_a1_eating_eaten c_a1_eating_rest c_a1_eating_eatsAt c_a1_eating_eaters c_a1_row c_a2_askers c_a2_places c_a2_above c_a2_below c_a2_full c_a2_firsts c_a2_freed c_a2_whole c_a2_seats c_a2_wish c_a2_told c_a2_weight c_a2_count c_a2_found c_a2_cost c_a2_least c_a2_prefer c_a2_next c_a2_firstWorth c_a2_secondWorth c_a2_stand c_a2_served c_a2_points c_a2_can c_a2_ring c_a2_ways c_a2_leftOf c_a2_ate c_a2_eats v3
      else if (t2 &&& (31 : Int32)) = 26 then
        f_L_law_986 N L c_a0 (f_L_law_18 N L c_a0 n) c_a1_above c_a1_below c_a1_board_askers c_a1_board_places c_a1_board_age c_a1_board_seats c_a1_board_wishes c_a1_board_likes c_a1_board_told c_a1_all_slots c_a1_all_askers c_a1_all_places c_a1_all_seatBits c_a1_all_entries c_a1_all_gains c_a1_all_solvedGains c_a1_all_left c_a1_all_best c_a1_all_ways c_a1_all_next c_a1_all_firstOf c_a1_all_clipAll c_a1_all_clipToOne c_a1_all_clipToTwo c_a1_steady_askers c_a1_steady_places c_a1_steady_seatBits c_a1_steady_entries c_a1_steady_gains c_a1_steady_solvedGains c_a1_steady_left c_a1_steady_best c_a1_steady_ways c_a1_steady_next c_a1_steady_firstOf c_a1_steady_clipAll c_a1_steady_clipToOne c_a1_steady_clipToTwo c_a1_aimed_askers c_a1_aimed_places c_a1_aimed_seatBits c_a1_aimed_entries c_a1_aimed_gains c_a1_aimed_solvedGains c_a1_aimed_left c_a1_aimed_best c_a1_aimed_ways c_a1_aimed_next c_a1_aimed_firstOf c_a1_aimed_clipAll c_a1_aimed_clipToOne c_a1_aimed_clipToTwo c_a1_steadiness_most c_a1_steadiness_tight c_a1_steadiness_firsts c_a1_trade_gets c_a1_trade_servedIn c_a1_trade_holds c_a1_trade_pointsAt c_a1_trade_holderOf c_a1_ring_length c_a1_ring_members c_a1_ring_wants c_a1_lots_age c_a1_lots_runs c_a1_lots_wanting c_a1_lots_wanted c_a1_lots_answers c_a1_lots_memoKeys c_a1_lots_memos c_a1_eating_whole c_a1_eating_time c_a1_eating_eaten c_a1_eating_rest c_a1_eating_eatsAt c_a1_eating_eaters c_a1_row c_a2_askers c_a2_places c_a2_above c_a2_below c_a2_full c_a2_firsts c_a2_freed c_a2_whole c_a2_seats c_a2_wish c_a2_told c_a2_weight c_a2_count c_a2_found c_a2_cost c_a2_least c_a2_prefer c_a2_next c_a2_firstWorth c_a2_secondWorth c_a2_stand c_a2_served c_a2_points c_a2_can c_a2_ring c_a2_ways c_a2_leftOf c_a2_ate c_a2_eats v3
      else if (t2 &&& (31 : Int32)) = 27 then
        f_L_law_1019 N L c_a0 (f_L_law_18 N L c_a0 n) c_a1_above c_a1_below c_a1_board_askers c_a1_board_places c_a1_board_age c_a1_board_seats c_a1_board_wishes c_a1_board_likes c_a1_board_told c_a1_all_slots c_a1_all_askers c_a1_all_places c_a1_all_seatBits c_a1_all_entries c_a1_all_gains c_a1_all_solvedGains c_a1_all_left c_a1_all_best c_a1_all_ways c_a1_all_next c_a1_all_firstOf c_a1_all_clipAll c_a1_all_clipToOne c_a1_all_clipToTwo c_a1_steady_askers c_a1_steady_places c_a1_steady_seatBits c_a1_steady_entries c_a1_steady_gains c_a1_steady_solvedGains c_a1_steady_left c_a1_steady_best c_a1_steady_ways c_a1_steady_next c_a1_steady_firstOf c_a1_steady_clipAll c_a1_steady_clipToOne c_a1_steady_clipToTwo c_a1_aimed_askers c_a1_aimed_places c_a1_aimed_seatBits c_a1_aimed_entries c_a1_aimed_gains c_a1_aimed_solvedGains c_a1_aimed_left c_a1_aimed_best c_a1_aimed_ways c_a1_aimed_next c_a1_aimed_firstOf c_a1_aimed_clipAll c_a1_aimed_clipToOne c_a1_aimed_clipToTwo c_a1_steadiness_most c_a1_steadiness_tight c_a1_steadiness_firsts c_a1_trade_gets c_a1_trade_servedIn c_a1_trade_holds c_a1_trade_pointsAt c_a1_trade_holderOf c_a1_ring_length c_a1_ring_members c_a1_ring_wants c_a1_lots_age c_a1_lots_runs c_a1_lots_wanting c_a1_lots_wanted c_a1_lots_answers c_a1_lots_memoKeys c_a1_lots_memos c_a1_eating_whole c_a1_eating_time c_a1_eating_eaten c_a1_eating_rest c_a1_eating_eatsAt c_a1_eating_eaters c_a1_row c_a2_askers c_a2_places c_a2_above c_a2_below c_a2_full c_a2_firsts c_a2_freed c_a2_whole c_a2_seats c_a2_wish c_a2_told c_a2_weight c_a2_count c_a2_found c_a2_cost c_a2_least c_a2_prefer c_a2_next c_a2_firstWorth c_a2_secondWorth c_a2_stand c_a2_served c_a2_points c_a2_can c_a2_ring c_a2_ways c_a2_leftOf c_a2_ate c_a2_eats v3
      else if (t2 &&& (31 : Int32)) = 28 then
        f_L_law_1042 N L c_a0 (f_L_law_18 N L c_a0 n) c_a1_above c_a1_below c_a1_board_askers c_a1_board_places c_a1_board_age c_a1_board_seats c_a1_board_wishes c_a1_board_likes c_a1_board_told c_a1_all_slots c_a1_all_askers c_a1_all_places c_a1_all_seatBits c_a1_all_entries c_a1_all_gains c_a1_all_solvedGains c_a1_all_left c_a1_all_best c_a1_all_ways c_a1_all_next c_a1_all_firstOf c_a1_all_clipAll c_a1_all_clipToOne c_a1_all_clipToTwo c_a1_steady_askers c_a1_steady_places c_a1_steady_seatBits c_a1_steady_entries c_a1_steady_gains c_a1_steady_solvedGains c_a1_steady_left c_a1_steady_best c_a1_steady_ways c_a1_steady_next c_a1_steady_firstOf c_a1_steady_clipAll c_a1_steady_clipToOne c_a1_steady_clipToTwo c_a1_aimed_askers c_a1_aimed_places c_a1_aimed_seatBits c_a1_aimed_entries c_a1_aimed_gains c_a1_aimed_solvedGains c_a1_aimed_left c_a1_aimed_best c_a1_aimed_ways c_a1_aimed_next c_a1_aimed_firstOf c_a1_aimed_clipAll c_a1_aimed_clipToOne c_a1_aimed_clipToTwo c_a1_steadiness_most c_a1_steadiness_tight c_a1_steadiness_firsts c_a1_trade_gets c_a1_trade_servedIn c_a1_trade_holds c_a1_trade_pointsAt c_a1_trade_holderOf c_a1_ring_length c_a1_ring_members c_a1_ring_wants c_a1_lots_age c_a1_lots_runs c_a1_lots_wanting c_a1_lots_wanted c_a1_lots_answers c_a1_lots_memoKeys c_a1_lots_memos c_a1_eating_whole c_a1_eating_time c_a1_eating_eaten c_a1_eating_rest c_a1_eating_eatsAt c_a1_eating_eaters c_a1_row c_a2_askers c_a2_places c_a2_above c_a2_below c_a2_full c_a2_firsts c_a2_freed c_a2_whole c_a2_seats c_a2_wish c_a2_told c_a2_weight c_a2_count c_a2_found c_a2_cost c_a2_least c_a2_prefer c_a2_next c_a2_firstWorth c_a2_secondWorth c_a2_stand c_a2_served c_a2_points c_a2_can c_a2_ring c_a2_ways c_a2_leftOf c_a2_ate c_a2_eats v3
      else 
        f_L_law_18 N L c_a0 n c_a1_above c_a1_below c_a1_board_askers c_a1_board_places c_a1_board_age c_a1_board_seats c_a1_board_wishes c_a1_board_likes c_a1_board_told c_a1_all_slots c_a1_all_askers c_a1_all_places c_a1_all_seatBits c_a1_all_entries c_a1_all_gains c_a1_all_solvedGains c_a1_all_left c_a1_all_best c_a1_all_ways c_a1_all_next c_a1_all_firstOf c_a1_all_clipAll c_a1_all_clipToOne c_a1_all_clipToTwo c_a1_steady_askers c_a1_steady_places c_a1_steady_seatBits c_a1_steady_entries c_a1_steady_gains c_a1_steady_solvedGains c_a1_steady_left c_a1_steady_best c_a1_steady_ways c_a1_steady_next c_a1_steady_firstOf c_a1_steady_clipAll c_a1_steady_clipToOne c_a1_steady_clipToTwo c_a1_aimed_askers c_a1_aimed_places c_a1_aimed_seatBits c_a1_aimed_entries c_a1_aimed_gains c_a1_aimed_solvedGains c_a1_aimed_left c_a1_aimed_best c_a1_aimed_ways c_a1_aimed_next c_a1_aimed_firstOf c_a1_aimed_clipAll c_a1_aimed_clipToOne c_a1_aimed_clipToTwo c_a1_steadiness_most c_a1_steadiness_tight c_a1_steadiness_firsts c_a1_trade_gets c_a1_trade_servedIn c_a1_trade_holds c_a1_trade_pointsAt c_a1_trade_holderOf c_a1_ring_length c_a1_ring_members c_a1_ring_wants c_a1_lots_age c_a1_lots_runs c_a1_lots_wanting c_a1_lots_wanted c_a1_lots_answers c_a1_lots_memoKeys c_a1_lots_memos c_a1_eating_whole c_a1_eating_time c_a1_eating_eaten c_a1_eating_rest c_a1_eating_eatsAt c_a1_eating_eaters c_a1_row c_a2_askers c_a2_places c_a2_above c_a2_below c_a2_full c_a2_firsts c_a2_freed c_a2_whole c_a2_seats c_a2_wish c_a2_told c_a2_weight c_a2_count c_a2_found c_a2_cost c_a2_least c_a2_prefer c_a2_next c_a2_firstWorth c_a2_secondWorth c_a2_stand c_a2_served c_a2_points c_a2_can c_a2_ring c_a2_ways c_a2_leftOf c_a2_ate c_a2_eats (v3 + 4))
