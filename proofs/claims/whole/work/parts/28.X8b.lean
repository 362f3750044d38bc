/-! printed by wip/gen: WishPlacesModel, part 1 -/
theorem F_X8_36 : FLD RX8 36 8 13 (.array .int) true := ⟨RX8, TX8, 29, tyX8, rfl, by decide, uX8, all_of 786 (by decide +kernel) (by decide +kernel), tyX8_ok, rfl, nmX8, rfl⟩
theorem F_X8_39 : FLD RX8 39 8 14 (.array .int) true := ⟨RX8, TX8, 29, tyX8, rfl, by decide, uX8, all_of 787 (by decide +kernel) (by decide +kernel), tyX8_ok, rfl, nmX8, rfl⟩
theorem F_X8_42 : FLD RX8 42 8 16 (.array .int) true := ⟨RX8, TX8, 29, tyX8, rfl, by decide, uX8, all_of 789 (by decide +kernel) (by decide +kernel), tyX8_ok, rfl, nmX8, rfl⟩
theorem F_X8_45 : FLD RX8 45 8 17 (.array .int) true := ⟨RX8, TX8, 29, tyX8, rfl, by decide, uX8, all_of 790 (by decide +kernel) (by decide +kernel), tyX8_ok, rfl, nmX8, rfl⟩
theorem F_X8_49 : FLD RX8 49 8 19 (.array .long) true := ⟨RX8, TX8, 29, tyX8, rfl, by decide, uX8, all_of 792 (by decide +kernel) (by decide +kernel), tyX8_ok, rfl, nmX8, rfl⟩
theorem F_X8_52 : FLD RX8 52 8 20 (.array .int) true := ⟨RX8, TX8, 29, tyX8, rfl, by decide, uX8, all_of 793 (by decide +kernel) (by decide +kernel), tyX8_ok, rfl, nmX8, rfl⟩
theorem F_X8_55 : FLD RX8 55 8 21 (.array .int) true := ⟨RX8, TX8, 29, tyX8, rfl, by decide, uX8, all_of 794 (by decide +kernel) (by decide +kernel), tyX8_ok, rfl, nmX8, rfl⟩
theorem F_X8_174 : FLD RX8 174 8 15 .int false := ⟨RX8, TX8, 29, tyX8, rfl, by decide, uX8, all_of 788 (by decide +kernel) (by decide +kernel), tyX8_ok, rfl, nmX8, rfl⟩
theorem F_X8_177 : FLD RX8 177 8 18 .int false := ⟨RX8, TX8, 29, tyX8, rfl, by decide, uX8, all_of 791 (by decide +kernel) (by decide +kernel), tyX8_ok, rfl, nmX8, rfl⟩
theorem m_X8_140 : Cond.methodLink RX8 140 yX8_costBy ∈ ALLW := all_of 937 (by decide +kernel) (by decide +kernel)
theorem m_X8_144 : Cond.methodLink RX8 144 yX8_findLeast ∈ ALLW := all_of 945 (by decide +kernel) (by decide +kernel)
theorem m_X8_150 : Cond.methodLink RX8 150 yX8_findBy ∈ ALLW := all_of 932 (by decide +kernel) (by decide +kernel)
theorem m_X8_154 : Cond.methodLink RX8 154 yX8_findBeater ∈ ALLW := all_of 949 (by decide +kernel) (by decide +kernel)
theorem m_X8_158 : Cond.methodLink RX8 158 yX8_findTrade ∈ ALLW := all_of 954 (by decide +kernel) (by decide +kernel)
theorem m_X8_163 : Cond.methodLink RX8 163 yX8_findPrefer ∈ ALLW := all_of 999 (by decide +kernel) (by decide +kernel)
theorem m_X8_166 : Cond.methodLink RX8 166 yX8_tells ∈ ALLW := all_of 1003 (by decide +kernel) (by decide +kernel)
theorem m_X8_170 : Cond.methodLink RX8 170 yX8_mostFirsts ∈ ALLW := all_of 1026 (by decide +kernel) (by decide +kernel)
theorem m_X8_180 : Cond.methodLink RX8 180 yX8_isFirst ∈ ALLW := all_of 1042 (by decide +kernel) (by decide +kernel)
theorem m_X8_187 : Cond.methodLink RX8 187 yX8_standAt ∈ ALLW := all_of 1030 (by decide +kernel) (by decide +kernel)
theorem m_X8_194 : Cond.methodLink RX8 194 yX8_mayStand ∈ ALLW := all_of 1038 (by decide +kernel) (by decide +kernel)
theorem m_X8_204 : Cond.methodLink RX8 204 yX8_pointsAt ∈ ALLW := all_of 958 (by decide +kernel) (by decide +kernel)
theorem m_X8_207 : Cond.methodLink RX8 207 yX8_isRing ∈ ALLW := all_of 962 (by decide +kernel) (by decide +kernel)
theorem k_X8_22 : Cond.constant RX8 22 36864 ∈ ALLW := all_of 770 (by decide +kernel) (by decide +kernel)
theorem k_X8_148 : Cond.constantLong RX8 148 (-1 : Int64) ∈ ALLW := all_of 953 (by decide +kernel) (by decide +kernel)
theorem k_X8_161 : Cond.constantLong RX8 161 (-2 : Int64) ∈ ALLW := all_of 974 (by decide +kernel) (by decide +kernel)
abbrev mu_X8_findBy : KM := (yX8_findBy, cX8_findBy, 4, none, { frames := 2, cells := 0, slots := 0, locals := 53 }, [], [])
def w_X8_findBy (c_askers : Int32) (c_places : Int32) (c_full : Int32) (c_cost : Nat → Int64) (c_found : Nat → Int32) (c_least : Nat → Int64) (c_seats : Nat → Int32) (c_weight : Nat → Int32) (c_wish : Nat → Int32) (u_above : Int64) (u_below : Int64) (u_firsts : Int32) (u_freed : Int32) (u_whole : Int64) : List mE := [.inr (8, [.int c_askers, .int c_places, .ref 4, .ref 6, .ref 1000, .long u_above, .long u_below, .ref 5, .int c_full, .ref 1001, .ref 2, .ref 1, .ref 3, .ref 1002, .ref 1003, .int u_firsts, .ref 1004, .ref 1005, .int u_freed, .ref 1006, .ref 1007, .ref 1008, .ref 1009, .ref 1010, .ref 1011, .long u_whole, .ref 1012, .ref 1013, .ref 1014]), .inl (1, 56, .inr (.inl c_cost)), .inl (0, 8, .inl c_found), .inl (1, 36864, .inr (.inl c_least)), .inl (0, 6, .inl c_seats), .inl (0, 6, .inl c_weight), .inl (0, 48, .inl c_wish)]
theorem cw_X8_findBy : CWv mu_X8_findBy 1 := ⟨⟨all_of 935 (by decide +kernel) (by decide +kernel), all_of 9 (by decide +kernel) (by decide +kernel), by decide +kernel, by decide +kernel, by decide +kernel⟩, all_of 934 (by decide +kernel) (by decide +kernel), all_pr 51 (by decide +kernel) (by decide +kernel)⟩
abbrev mu_X8_findBeater : KM := (yX8_findBeater, cX8_findBeater, 7, (some .int), { frames := 2, cells := 0, slots := 0, locals := 53 }, [], [])
def w_X8_findBeater (c_askers : Int32) (c_places : Int32) (c_full : Int32) (c_cost : Nat → Int64) (c_found : Nat → Int32) (c_least : Nat → Int64) (c_seats : Nat → Int32) (c_told : Nat → Int32) (c_weight : Nat → Int32) (c_wish : Nat → Int32) (u_above : Int64) (u_below : Int64) (u_firsts : Int32) (u_freed : Int32) (u_whole : Int64) : List mE := [.inr (8, [.int c_askers, .int c_places, .ref 4, .ref 7, .ref 5, .long u_above, .long u_below, .ref 6, .int c_full, .ref 1000, .ref 2, .ref 1, .ref 3, .ref 1001, .ref 1002, .int u_firsts, .ref 1003, .ref 1004, .int u_freed, .ref 1005, .ref 1006, .ref 1007, .ref 1008, .ref 1009, .ref 1010, .long u_whole, .ref 1011, .ref 1012, .ref 1013]), .inl (1, 56, .inr (.inl c_cost)), .inl (0, 8, .inl c_found), .inl (1, 36864, .inr (.inl c_least)), .inl (0, 6, .inl c_seats), .inl (0, 32, .inl c_told), .inl (0, 6, .inl c_weight), .inl (0, 48, .inl c_wish)]
theorem cw_X8_findBeater : CWv mu_X8_findBeater 2 := ⟨⟨all_of 952 (by decide +kernel) (by decide +kernel), all_of 9 (by decide +kernel) (by decide +kernel), by decide +kernel, by decide +kernel, by decide +kernel⟩, all_of 951 (by decide +kernel) (by decide +kernel), all_pr 53 (by decide +kernel) (by decide +kernel)⟩
abbrev mu_X8_pointsAt : KM := (yX8_pointsAt, cX8_pointsAt, 10, (some .int), { frames := 1, cells := 0, slots := 0, locals := 23 }, [], [])
def w_X8_pointsAt (c_askers : Int32) (c_told : Nat → Int32) (c_wish : Nat → Int32) (u_places : Int32) (u_above : Int64) (u_below : Int64) (u_full : Int32) (u_firsts : Int32) (u_freed : Int32) (u_whole : Int64) : List mE := [.inr (8, [.int c_askers, .int u_places, .ref 1000, .ref 2, .ref 1, .long u_above, .long u_below, .ref 1001, .int u_full, .ref 1002, .ref 1003, .ref 1004, .ref 1005, .ref 1006, .ref 1007, .int u_firsts, .ref 1008, .ref 1009, .int u_freed, .ref 1010, .ref 1011, .ref 1012, .ref 1013, .ref 1014, .ref 1015, .long u_whole, .ref 1016, .ref 1017, .ref 1018]), .inl (0, 32, .inl c_told), .inl (0, 48, .inl c_wish)]
theorem cw_X8_pointsAt : CWv mu_X8_pointsAt 3 := ⟨⟨all_of 961 (by decide +kernel) (by decide +kernel), all_of 9 (by decide +kernel) (by decide +kernel), by decide +kernel, by decide +kernel, by decide +kernel⟩, all_of 960 (by decide +kernel) (by decide +kernel), all_pr 55 (by decide +kernel) (by decide +kernel)⟩
abbrev mu_X8_isRing : KM := (yX8_isRing, cX8_isRing, 4, (some .boolean), { frames := 0, cells := 0, slots := 0, locals := 0 }, [], [])
def w_X8_isRing (c_points : Nat → Int32) (u_askers : Int32) (u_places : Int32) (u_above : Int64) (u_below : Int64) (u_full : Int32) (u_firsts : Int32) (u_freed : Int32) (u_whole : Int64) : List mE := [.inr (8, [.int u_askers, .int u_places, .ref 1000, .ref 1001, .ref 1002, .long u_above, .long u_below, .ref 1003, .int u_full, .ref 1004, .ref 1005, .ref 1006, .ref 1007, .ref 1008, .ref 1009, .int u_firsts, .ref 1010, .ref 1011, .int u_freed, .ref 1012, .ref 1013, .ref 1, .ref 1014, .ref 1015, .ref 1016, .long u_whole, .ref 1017, .ref 1018, .ref 1019]), .inl (0, 8, .inl c_points)]
theorem cw_X8_isRing : CWv mu_X8_isRing 1 := ⟨⟨all_of 965 (by decide +kernel) (by decide +kernel), all_of 9 (by decide +kernel) (by decide +kernel), by decide +kernel, by decide +kernel, by decide +kernel⟩, all_of 964 (by decide +kernel) (by decide +kernel), all_pr 56 (by decide +kernel) (by decide +kernel)⟩
abbrev mu_X8_findTrade : KM := (yX8_findTrade, cX8_findTrade, 6, none, { frames := 2, cells := 0, slots := 0, locals := 52 }, [], [])
def w_X8_findTrade (c_askers : Int32) (c_found : Nat → Int32) (c_points : Nat → Int32) (c_served : Nat → Int32) (c_told : Nat → Int32) (c_wish : Nat → Int32) (u_places : Int32) (u_above : Int64) (u_below : Int64) (u_full : Int32) (u_firsts : Int32) (u_freed : Int32) (u_whole : Int64) : List mE := [.inr (8, [.int c_askers, .int u_places, .ref 1000, .ref 5, .ref 4, .long u_above, .long u_below, .ref 1001, .int u_full, .ref 1002, .ref 1, .ref 1003, .ref 1004, .ref 1005, .ref 1006, .int u_firsts, .ref 1007, .ref 1008, .int u_freed, .ref 1009, .ref 3, .ref 2, .ref 1010, .ref 1011, .ref 1012, .long u_whole, .ref 1013, .ref 1014, .ref 1015]), .inl (0, 8, .inl c_found), .inl (0, 8, .inl c_points), .inl (0, 8, .inl c_served), .inl (0, 32, .inl c_told), .inl (0, 48, .inl c_wish)]
theorem cw_X8_findTrade : CWv mu_X8_findTrade 1 := ⟨⟨all_of 957 (by decide +kernel) (by decide +kernel), all_of 9 (by decide +kernel) (by decide +kernel), by decide +kernel, by decide +kernel, by decide +kernel⟩, all_of 956 (by decide +kernel) (by decide +kernel), all_pr 54 (by decide +kernel) (by decide +kernel)⟩
abbrev mu_X8_become : KM := (yX8_become, cX8_become, 4, (some .int), { frames := 3, cells := 0, slots := 0, locals := 79 }, [], [])
def w_X8_become (c_askers : Int32) (c_places : Int32) (c_full : Int32) (c_cost : Nat → Int64) (c_found : Nat → Int32) (c_least : Nat → Int64) (c_points : Nat → Int32) (c_seats : Nat → Int32) (c_served : Nat → Int32) (c_told : Nat → Int32) (c_weight : Nat → Int32) (c_wish : Nat → Int32) (u_above : Int64) (u_below : Int64) (u_firsts : Int32) (u_freed : Int32) (u_whole : Int64) : List mE := [.inr (8, [.int c_askers, .int c_places, .ref 5, .ref 9, .ref 7, .long u_above, .long u_below, .ref 8, .int c_full, .ref 1000, .ref 2, .ref 1, .ref 3, .ref 1001, .ref 1002, .int u_firsts, .ref 1003, .ref 1004, .int u_freed, .ref 1005, .ref 6, .ref 4, .ref 1006, .ref 1007, .ref 1008, .long u_whole, .ref 1009, .ref 1010, .ref 1011]), .inl (1, 56, .inr (.inl c_cost)), .inl (0, 8, .inl c_found), .inl (1, 36864, .inr (.inl c_least)), .inl (0, 8, .inl c_points), .inl (0, 6, .inl c_seats), .inl (0, 8, .inl c_served), .inl (0, 32, .inl c_told), .inl (0, 6, .inl c_weight), .inl (0, 48, .inl c_wish)]
theorem cw_X8_become : CWv mu_X8_become 2 := ⟨⟨all_of 931 (by decide +kernel) (by decide +kernel), all_of 9 (by decide +kernel) (by decide +kernel), by decide +kernel, by decide +kernel, by decide +kernel⟩, all_of 929 (by decide +kernel) (by decide +kernel), all_of 930 (by decide +kernel) (by decide +kernel)⟩
abbrev mu_X8_has : KM := (yX8_has, cX8_has, 3, (some .int), { frames := 2, cells := 0, slots := 0, locals := 43 }, [], [])
def w_X8_has (c_askers : Int32) (c_told : Nat → Int32) (u_places : Int32) (u_above : Int64) (u_below : Int64) (u_full : Int32) (u_firsts : Int32) (u_freed : Int32) (u_whole : Int64) : List mE := [.inr (8, [.int c_askers, .int u_places, .ref 1000, .ref 1001, .ref 1, .long u_above, .long u_below, .ref 1002, .int u_full, .ref 1003, .ref 1004, .ref 1005, .ref 1006, .ref 1007, .ref 1008, .int u_firsts, .ref 1009, .ref 1010, .int u_freed, .ref 1011, .ref 1012, .ref 1013, .ref 1014, .ref 1015, .ref 1016, .long u_whole, .ref 1017, .ref 1018, .ref 1019]), .inl (0, 32, .inl c_told)]
theorem cw_X8_has : CWv mu_X8_has 2 := ⟨⟨all_of 969 (by decide +kernel) (by decide +kernel), all_of 9 (by decide +kernel) (by decide +kernel), by decide +kernel, by decide +kernel, by decide +kernel⟩, all_of 967 (by decide +kernel) (by decide +kernel), all_of 968 (by decide +kernel) (by decide +kernel)⟩
abbrev mu_X8_placeOf : KM := (yX8_placeOf, cX8_placeOf, 8, (some .long), { frames := 2, cells := 0, slots := 0, locals := 51 }, [], [])
def w_X8_placeOf (c_askers : Int32) (c_places : Int32) (c_full : Int32) (c_count : Nat → Int64) (c_seats : Nat → Int32) (c_told : Nat → Int32) (c_weight : Nat → Int32) (c_wish : Nat → Int32) (u_above : Int64) (u_below : Int64) (u_firsts : Int32) (u_freed : Int32) (u_whole : Int64) : List mE := [.inr (8, [.int c_askers, .int c_places, .ref 2, .ref 5, .ref 3, .long u_above, .long u_below, .ref 4, .int c_full, .ref 1, .ref 1000, .ref 1001, .ref 1002, .ref 1003, .ref 1004, .int u_firsts, .ref 1005, .ref 1006, .int u_freed, .ref 1007, .ref 1008, .ref 1009, .ref 1010, .ref 1011, .ref 1012, .long u_whole, .ref 1013, .ref 1014, .ref 1015]), .inl (1, 36864, .inr (.inl c_count)), .inl (0, 6, .inl c_seats), .inl (0, 32, .inl c_told), .inl (0, 6, .inl c_weight), .inl (0, 48, .inl c_wish)]
theorem cw_X8_placeOf : CWv mu_X8_placeOf 1 := ⟨⟨all_of 973 (by decide +kernel) (by decide +kernel), all_of 9 (by decide +kernel) (by decide +kernel), by decide +kernel, by decide +kernel, by decide +kernel⟩, all_of 971 (by decide +kernel) (by decide +kernel), all_of 972 (by decide +kernel) (by decide +kernel)⟩
abbrev mu_X8_many : KM := (yX8_many, cX8_many, 5, (some .int), { frames := 2, cells := 0, slots := 0, locals := 42 }, [], [])
def w_X8_many (c_askers : Int32) (c_told : Nat → Int32) (c_wish : Nat → Int32) (u_places : Int32) (u_above : Int64) (u_below : Int64) (u_full : Int32) (u_firsts : Int32) (u_freed : Int32) (u_whole : Int64) : List mE := [.inr (8, [.int c_askers, .int u_places, .ref 1000, .ref 2, .ref 1, .long u_above, .long u_below, .ref 1001, .int u_full, .ref 1002, .ref 1003, .ref 1004, .ref 1005, .ref 1006, .ref 1007, .int u_firsts, .ref 1008, .ref 1009, .int u_freed, .ref 1010, .ref 1011, .ref 1012, .ref 1013, .ref 1014, .ref 1015, .long u_whole, .ref 1016, .ref 1017, .ref 1018]), .inl (0, 32, .inl c_told), .inl (0, 48, .inl c_wish)]
theorem cw_X8_many : CWv mu_X8_many 2 := ⟨⟨all_of 978 (by decide +kernel) (by decide +kernel), all_of 9 (by decide +kernel) (by decide +kernel), by decide +kernel, by decide +kernel, by decide +kernel⟩, all_of 976 (by decide +kernel) (by decide +kernel), all_of 977 (by decide +kernel) (by decide +kernel)⟩
abbrev mu_X8_votes : KM := (yX8_votes, cX8_votes, 7, (some .int), { frames := 2, cells := 0, slots := 0, locals := 42 }, [], [])
def w_X8_votes (c_askers : Int32) (c_told : Nat → Int32) (c_wish : Nat → Int32) (u_places : Int32) (u_above : Int64) (u_below : Int64) (u_full : Int32) (u_firsts : Int32) (u_freed : Int32) (u_whole : Int64) : List mE := [.inr (8, [.int c_askers, .int u_places, .ref 1000, .ref 2, .ref 1, .long u_above, .long u_below, .ref 1001, .int u_full, .ref 1002, .ref 1003, .ref 1004, .ref 1005, .ref 1006, .ref 1007, .int u_firsts, .ref 1008, .ref 1009, .int u_freed, .ref 1010, .ref 1011, .ref 1012, .ref 1013, .ref 1014, .ref 1015, .long u_whole, .ref 1016, .ref 1017, .ref 1018]), .inl (0, 32, .inl c_told), .inl (0, 48, .inl c_wish)]
theorem cw_X8_votes : CWv mu_X8_votes 2 := ⟨⟨all_of 982 (by decide +kernel) (by decide +kernel), all_of 9 (by decide +kernel) (by decide +kernel), by decide +kernel, by decide +kernel, by decide +kernel⟩, all_of 980 (by decide +kernel) (by decide +kernel), all_of 981 (by decide +kernel) (by decide +kernel)⟩
abbrev mu_X8_margin : KM := (yX8_margin, cX8_margin, 2, (some .int), { frames := 3, cells := 0, slots := 0, locals := 79 }, [], [])
def w_X8_margin (c_askers : Int32) (c_places : Int32) (c_full : Int32) (c_cost : Nat → Int64) (c_found : Nat → Int32) (c_least : Nat → Int64) (c_seats : Nat → Int32) (c_told : Nat → Int32) (c_weight : Nat → Int32) (c_wish : Nat → Int32) (u_above : Int64) (u_below : Int64) (u_firsts : Int32) (u_freed : Int32) (u_whole : Int64) : List mE := [.inr (8, [.int c_askers, .int c_places, .ref 4, .ref 7, .ref 5, .long u_above, .long u_below, .ref 6, .int c_full, .ref 1000, .ref 2, .ref 1, .ref 3, .ref 1001, .ref 1002, .int u_firsts, .ref 1003, .ref 1004, .int u_freed, .ref 1005, .ref 1006, .ref 1007, .ref 1008, .ref 1009, .ref 1010, .long u_whole, .ref 1011, .ref 1012, .ref 1013]), .inl (1, 56, .inr (.inl c_cost)), .inl (0, 8, .inl c_found), .inl (1, 36864, .inr (.inl c_least)), .inl (0, 6, .inl c_seats), .inl (0, 32, .inl c_told), .inl (0, 6, .inl c_weight), .inl (0, 48, .inl c_wish)]
theorem cw_X8_margin : CWv mu_X8_margin 1 := ⟨⟨all_of 986 (by decide +kernel) (by decide +kernel), all_of 9 (by decide +kernel) (by decide +kernel), by decide +kernel, by decide +kernel, by decide +kernel⟩, all_of 984 (by decide +kernel) (by decide +kernel), all_of 985 (by decide +kernel) (by decide +kernel)⟩
abbrev mu_X8_beater : KM := (yX8_beater, cX8_beater, 3, (some .int), { frames := 3, cells := 0, slots := 0, locals := 79 }, [], [])
def w_X8_beater (c_askers : Int32) (c_places : Int32) (c_full : Int32) (c_cost : Nat → Int64) (c_found : Nat → Int32) (c_least : Nat → Int64) (c_seats : Nat → Int32) (c_told : Nat → Int32) (c_weight : Nat → Int32) (c_wish : Nat → Int32) (u_above : Int64) (u_below : Int64) (u_firsts : Int32) (u_freed : Int32) (u_whole : Int64) : List mE := [.inr (8, [.int c_askers, .int c_places, .ref 4, .ref 7, .ref 5, .long u_above, .long u_below, .ref 6, .int c_full, .ref 1000, .ref 2, .ref 1, .ref 3, .ref 1001, .ref 1002, .int u_firsts, .ref 1003, .ref 1004, .int u_freed, .ref 1005, .ref 1006, .ref 1007, .ref 1008, .ref 1009, .ref 1010, .long u_whole, .ref 1011, .ref 1012, .ref 1013]), .inl (1, 56, .inr (.inl c_cost)), .inl (0, 8, .inl c_found), .inl (1, 36864, .inr (.inl c_least)), .inl (0, 6, .inl c_seats), .inl (0, 32, .inl c_told), .inl (0, 6, .inl c_weight), .inl (0, 48, .inl c_wish)]
theorem cw_X8_beater : CWv mu_X8_beater 2 := ⟨⟨all_of 990 (by decide +kernel) (by decide +kernel), all_of 9 (by decide +kernel) (by decide +kernel), by decide +kernel, by decide +kernel, by decide +kernel⟩, all_of 988 (by decide +kernel) (by decide +kernel), all_of 989 (by decide +kernel) (by decide +kernel)⟩
abbrev mu_X8_better : KM := (yX8_better, cX8_better, 2, (some .int), { frames := 3, cells := 0, slots := 0, locals := 79 }, [], [])
def w_X8_better (c_askers : Int32) (c_places : Int32) (c_full : Int32) (c_cost : Nat → Int64) (c_found : Nat → Int32) (c_least : Nat → Int64) (c_seats : Nat → Int32) (c_told : Nat → Int32) (c_weight : Nat → Int32) (c_wish : Nat → Int32) (u_above : Int64) (u_below : Int64) (u_firsts : Int32) (u_freed : Int32) (u_whole : Int64) : List mE := [.inr (8, [.int c_askers, .int c_places, .ref 4, .ref 7, .ref 5, .long u_above, .long u_below, .ref 6, .int c_full, .ref 1000, .ref 2, .ref 1, .ref 3, .ref 1001, .ref 1002, .int u_firsts, .ref 1003, .ref 1004, .int u_freed, .ref 1005, .ref 1006, .ref 1007, .ref 1008, .ref 1009, .ref 1010, .long u_whole, .ref 1011, .ref 1012, .ref 1013]), .inl (1, 56, .inr (.inl c_cost)), .inl (0, 8, .inl c_found), .inl (1, 36864, .inr (.inl c_least)), .inl (0, 6, .inl c_seats), .inl (0, 32, .inl c_told), .inl (0, 6, .inl c_weight), .inl (0, 48, .inl c_wish)]
theorem cw_X8_better : CWv mu_X8_better 1 := ⟨⟨all_of 994 (by decide +kernel) (by decide +kernel), all_of 9 (by decide +kernel) (by decide +kernel), by decide +kernel, by decide +kernel, by decide +kernel⟩, all_of 992 (by decide +kernel) (by decide +kernel), all_of 993 (by decide +kernel) (by decide +kernel)⟩
abbrev mu_X8_findPrefer : KM := (yX8_findPrefer, cX8_findPrefer, 12, none, { frames := 1, cells := 0, slots := 0, locals := 25 }, [], [])
def w_X8_findPrefer (c_askers : Int32) (c_places : Int32) (c_full : Int32) (c_next : Nat → Int32) (c_prefer : Nat → Int32) (c_seats : Nat → Int32) (c_told : Nat → Int32) (c_weight : Nat → Int32) (c_wish : Nat → Int32) (u_above : Int64) (u_below : Int64) (u_firsts : Int32) (u_freed : Int32) (u_whole : Int64) : List mE := [.inr (8, [.int c_askers, .int c_places, .ref 3, .ref 6, .ref 4, .long u_above, .long u_below, .ref 5, .int c_full, .ref 1000, .ref 1001, .ref 1002, .ref 1003, .ref 2, .ref 1, .int u_firsts, .ref 1004, .ref 1005, .int u_freed, .ref 1006, .ref 1007, .ref 1008, .ref 1009, .ref 1010, .ref 1011, .long u_whole, .ref 1012, .ref 1013, .ref 1014]), .inl (0, 36864, .inl c_next), .inl (0, 36864, .inl c_prefer), .inl (0, 6, .inl c_seats), .inl (0, 32, .inl c_told), .inl (0, 6, .inl c_weight), .inl (0, 48, .inl c_wish)]
theorem cw_X8_findPrefer : CWv mu_X8_findPrefer 1 := ⟨⟨all_of 1002 (by decide +kernel) (by decide +kernel), all_of 9 (by decide +kernel) (by decide +kernel), by decide +kernel, by decide +kernel, by decide +kernel⟩, all_of 1001 (by decide +kernel) (by decide +kernel), all_pr 57 (by decide +kernel) (by decide +kernel)⟩
abbrev mu_X8_factor : KM := (yX8_factor, cX8_factor, 9, (some .int), { frames := 2, cells := 0, slots := 0, locals := 56 }, [], [])
def w_X8_factor (c_askers : Int32) (c_places : Int32) (c_above : Int64) (c_below : Int64) (c_full : Int32) (c_next : Nat → Int32) (c_prefer : Nat → Int32) (c_seats : Nat → Int32) (c_told : Nat → Int32) (c_weight : Nat → Int32) (c_wish : Nat → Int32) (u_firsts : Int32) (u_freed : Int32) (u_whole : Int64) : List mE := [.inr (8, [.int c_askers, .int c_places, .ref 3, .ref 6, .ref 4, .long c_above, .long c_below, .ref 5, .int c_full, .ref 1000, .ref 1001, .ref 1002, .ref 1003, .ref 2, .ref 1, .int u_firsts, .ref 1004, .ref 1005, .int u_freed, .ref 1006, .ref 1007, .ref 1008, .ref 1009, .ref 1010, .ref 1011, .long u_whole, .ref 1012, .ref 1013, .ref 1014]), .inl (0, 36864, .inl c_next), .inl (0, 36864, .inl c_prefer), .inl (0, 6, .inl c_seats), .inl (0, 32, .inl c_told), .inl (0, 6, .inl c_weight), .inl (0, 48, .inl c_wish)]
theorem cw_X8_factor : CWv mu_X8_factor 1 := ⟨⟨all_of 998 (by decide +kernel) (by decide +kernel), all_of 9 (by decide +kernel) (by decide +kernel), by decide +kernel, by decide +kernel, by decide +kernel⟩, all_of 996 (by decide +kernel) (by decide +kernel), all_of 997 (by decide +kernel) (by decide +kernel)⟩
abbrev mu_X8_part : KM := (yX8_part, cX8_part, 2, (some .long), { frames := 0, cells := 0, slots := 0, locals := 0 }, [], [])
def w_X8_part (c_above : Int64) (c_below : Int64) (u_askers : Int32) (u_places : Int32) (u_full : Int32) (u_firsts : Int32) (u_freed : Int32) (u_whole : Int64) : List mE := [.inr (8, [.int u_askers, .int u_places, .ref 1000, .ref 1001, .ref 1002, .long c_above, .long c_below, .ref 1003, .int u_full, .ref 1004, .ref 1005, .ref 1006, .ref 1007, .ref 1008, .ref 1009, .int u_firsts, .ref 1010, .ref 1011, .int u_freed, .ref 1012, .ref 1013, .ref 1014, .ref 1015, .ref 1016, .ref 1017, .long u_whole, .ref 1018, .ref 1019, .ref 1020])]
theorem cw_X8_part : CWv mu_X8_part 1 := ⟨⟨all_of 1013 (by decide +kernel) (by decide +kernel), all_of 9 (by decide +kernel) (by decide +kernel), by decide +kernel, by decide +kernel, by decide +kernel⟩, all_of 1011 (by decide +kernel) (by decide +kernel), all_of 1012 (by decide +kernel) (by decide +kernel)⟩
abbrev mu_X8_mostFirsts : KM := (yX8_mostFirsts, cX8_mostFirsts, 4, (some .int), { frames := 2, cells := 0, slots := 0, locals := 53 }, [], [])
def w_X8_mostFirsts (c_askers : Int32) (c_places : Int32) (c_full : Int32) (c_cost : Nat → Int64) (c_firstWorth : Nat → Int32) (c_found : Nat → Int32) (c_least : Nat → Int64) (c_seats : Nat → Int32) (c_weight : Nat → Int32) (c_wish : Nat → Int32) (u_above : Int64) (u_below : Int64) (u_firsts : Int32) (u_freed : Int32) (u_whole : Int64) : List mE := [.inr (8, [.int c_askers, .int c_places, .ref 5, .ref 7, .ref 1000, .long u_above, .long u_below, .ref 6, .int c_full, .ref 1001, .ref 3, .ref 1, .ref 4, .ref 1002, .ref 1003, .int u_firsts, .ref 2, .ref 1004, .int u_freed, .ref 1005, .ref 1006, .ref 1007, .ref 1008, .ref 1009, .ref 1010, .long u_whole, .ref 1011, .ref 1012, .ref 1013]), .inl (1, 56, .inr (.inl c_cost)), .inl (0, 8, .inl c_firstWorth), .inl (0, 8, .inl c_found), .inl (1, 36864, .inr (.inl c_least)), .inl (0, 6, .inl c_seats), .inl (0, 6, .inl c_weight), .inl (0, 48, .inl c_wish)]
theorem cw_X8_mostFirsts : CWv mu_X8_mostFirsts 1 := ⟨⟨all_of 1029 (by decide +kernel) (by decide +kernel), all_of 9 (by decide +kernel) (by decide +kernel), by decide +kernel, by decide +kernel, by decide +kernel⟩, all_of 1028 (by decide +kernel) (by decide +kernel), all_pr 61 (by decide +kernel) (by decide +kernel)⟩
abbrev mu_X8_findStanding : KM := (yX8_findStanding, cX8_findStanding, 4, none, { frames := 3, cells := 0, slots := 0, locals := 76 }, [], [])
def w_X8_findStanding (c_askers : Int32) (c_places : Int32) (c_full : Int32) (c_firsts : Int32) (c_freed : Int32) (c_cost : Nat → Int64) (c_firstWorth : Nat → Int32) (c_found : Nat → Int32) (c_least : Nat → Int64) (c_seats : Nat → Int32) (c_secondWorth : Nat → Int32) (c_weight : Nat → Int32) (c_wish : Nat → Int32) (u_above : Int64) (u_below : Int64) (u_whole : Int64) : List mE := [.inr (8, [.int c_askers, .int c_places, .ref 5, .ref 8, .ref 1000, .long u_above, .long u_below, .ref 7, .int c_full, .ref 1001, .ref 3, .ref 1, .ref 4, .ref 1002, .ref 1003, .int c_firsts, .ref 2, .ref 6, .int c_freed, .ref 1004, .ref 1005, .ref 1006, .ref 1007, .ref 1008, .ref 1009, .long u_whole, .ref 1010, .ref 1011, .ref 1012]), .inl (1, 56, .inr (.inl c_cost)), .inl (0, 8, .inl c_firstWorth), .inl (0, 8, .inl c_found), .inl (1, 36864, .inr (.inl c_least)), .inl (0, 6, .inl c_seats), .inl (0, 8, .inl c_secondWorth), .inl (0, 6, .inl c_weight), .inl (0, 48, .inl c_wish)]
theorem cw_X8_findStanding : CWv mu_X8_findStanding 0 := ⟨⟨all_of 1025 (by decide +kernel) (by decide +kernel), all_of 9 (by decide +kernel) (by decide +kernel), by decide +kernel, by decide +kernel, by decide +kernel⟩, all_of 1024 (by decide +kernel) (by decide +kernel), all_pr 60 (by decide +kernel) (by decide +kernel)⟩
abbrev mu_X8_isFirst : KM := (yX8_isFirst, cX8_isFirst, 3, (some .boolean), { frames := 1, cells := 0, slots := 0, locals := 23 }, [], [])
def w_X8_isFirst (c_firstWorth : Nat → Int32) (c_wish : Nat → Int32) (u_askers : Int32) (u_places : Int32) (u_above : Int64) (u_below : Int64) (u_full : Int32) (u_firsts : Int32) (u_freed : Int32) (u_whole : Int64) : List mE := [.inr (8, [.int u_askers, .int u_places, .ref 1000, .ref 2, .ref 1001, .long u_above, .long u_below, .ref 1002, .int u_full, .ref 1003, .ref 1004, .ref 1005, .ref 1006, .ref 1007, .ref 1008, .int u_firsts, .ref 1, .ref 1009, .int u_freed, .ref 1010, .ref 1011, .ref 1012, .ref 1013, .ref 1014, .ref 1015, .long u_whole, .ref 1016, .ref 1017, .ref 1018]), .inl (0, 8, .inl c_firstWorth), .inl (0, 48, .inl c_wish)]
theorem cw_X8_isFirst : CWv mu_X8_isFirst 2 := ⟨⟨all_of 1045 (by decide +kernel) (by decide +kernel), all_of 9 (by decide +kernel) (by decide +kernel), by decide +kernel, by decide +kernel, by decide +kernel⟩, all_of 1044 (by decide +kernel) (by decide +kernel), all_pr 65 (by decide +kernel) (by decide +kernel)⟩
abbrev mu_X8_mayStand : KM := (yX8_mayStand, cX8_mayStand, 4, (some .boolean), { frames := 2, cells := 0, slots := 0, locals := 45 }, [], [])
def w_X8_mayStand (c_freed : Int32) (c_firstWorth : Nat → Int32) (c_secondWorth : Nat → Int32) (c_wish : Nat → Int32) (u_askers : Int32) (u_places : Int32) (u_above : Int64) (u_below : Int64) (u_full : Int32) (u_firsts : Int32) (u_whole : Int64) : List mE := [.inr (8, [.int u_askers, .int u_places, .ref 1000, .ref 3, .ref 1001, .long u_above, .long u_below, .ref 1002, .int u_full, .ref 1003, .ref 1004, .ref 1005, .ref 1006, .ref 1007, .ref 1008, .int u_firsts, .ref 1, .ref 2, .int c_freed, .ref 1009, .ref 1010, .ref 1011, .ref 1012, .ref 1013, .ref 1014, .long u_whole, .ref 1015, .ref 1016, .ref 1017]), .inl (0, 8, .inl c_firstWorth), .inl (0, 8, .inl c_secondWorth), .inl (0, 48, .inl c_wish)]
theorem cw_X8_mayStand : CWv mu_X8_mayStand 2 := ⟨⟨all_of 1041 (by decide +kernel) (by decide +kernel), all_of 9 (by decide +kernel) (by decide +kernel), by decide +kernel, by decide +kernel, by decide +kernel⟩, all_of 1040 (by decide +kernel) (by decide +kernel), all_pr 64 (by decide +kernel) (by decide +kernel)⟩
abbrev mu_X8_standAt : KM := (yX8_standAt, cX8_standAt, 4, (some .int), { frames := 0, cells := 0, slots := 0, locals := 0 }, [], [])
def w_X8_standAt (u_askers : Int32) (u_places : Int32) (u_above : Int64) (u_below : Int64) (u_full : Int32) (u_firsts : Int32) (u_freed : Int32) (u_whole : Int64) : List mE := [.inr (8, [.int u_askers, .int u_places, .ref 1000, .ref 1001, .ref 1002, .long u_above, .long u_below, .ref 1003, .int u_full, .ref 1004, .ref 1005, .ref 1006, .ref 1007, .ref 1008, .ref 1009, .int u_firsts, .ref 1010, .ref 1011, .int u_freed, .ref 1012, .ref 1013, .ref 1014, .ref 1015, .ref 1016, .ref 1017, .long u_whole, .ref 1018, .ref 1019, .ref 1020])]
theorem cw_X8_standAt : CWv mu_X8_standAt 3 := ⟨⟨all_of 1033 (by decide +kernel) (by decide +kernel), all_of 9 (by decide +kernel) (by decide +kernel), by decide +kernel, by decide +kernel, by decide +kernel⟩, all_of 1032 (by decide +kernel) (by decide +kernel), all_pr 62 (by decide +kernel) (by decide +kernel)⟩
abbrev mu_X8_standOn : KM := (yX8_standOn, cX8_standOn, 7, (some .long), { frames := 3, cells := 0, slots := 0, locals := 68 }, [], [])
def w_X8_standOn (c_places : Int32) (c_freed : Int32) (c_firstWorth : Nat → Int32) (c_seats : Nat → Int32) (c_secondWorth : Nat → Int32) (c_stand : Nat → Int64) (c_weight : Nat → Int32) (c_wish : Nat → Int32) (u_askers : Int32) (u_above : Int64) (u_below : Int64) (u_full : Int32) (u_firsts : Int32) (u_whole : Int64) : List mE := [.inr (8, [.int u_askers, .int c_places, .ref 2, .ref 6, .ref 1000, .long u_above, .long u_below, .ref 5, .int u_full, .ref 1001, .ref 1002, .ref 1003, .ref 1004, .ref 1005, .ref 1006, .int u_firsts, .ref 1, .ref 3, .int c_freed, .ref 4, .ref 1007, .ref 1008, .ref 1009, .ref 1010, .ref 1011, .long u_whole, .ref 1012, .ref 1013, .ref 1014]), .inl (0, 8, .inl c_firstWorth), .inl (0, 6, .inl c_seats), .inl (0, 8, .inl c_secondWorth), .inl (1, 331776, .inr (.inl c_stand)), .inl (0, 6, .inl c_weight), .inl (0, 48, .inl c_wish)]
theorem cw_X8_standOn : CWv mu_X8_standOn 4 := ⟨⟨all_of 1037 (by decide +kernel) (by decide +kernel), all_of 9 (by decide +kernel) (by decide +kernel), by decide +kernel, by decide +kernel, by decide +kernel⟩, all_of 1036 (by decide +kernel) (by decide +kernel), all_pr 63 (by decide +kernel) (by decide +kernel)⟩
set_option maxRecDepth 20000 in
theorem dX8_findBy_0 : decode cX8_findBy 0 = .ok (.iconst 0, 1) := by decide +kernel
set_option maxRecDepth 20000 in
theorem dX8_findBy_1 : decode cX8_findBy 1 = .ok (.istore_n 2, 1) := by decide +kernel
set_option maxRecDepth 20000 in
theorem dX8_findBy_2 : decode cX8_findBy 2 = .ok (.iload_n 2, 1) := by decide +kernel
set_option maxRecDepth 20000 in
theorem dX8_findBy_3 : decode cX8_findBy 3 = .ok (.aload_n 0, 1) := by decide +kernel
set_option maxRecDepth 20000 in
theorem dX8_findBy_4 : decode cX8_findBy 4 = .ok (.getfield 89, 3) := by decide +kernel
set_option maxRecDepth 20000 in
theorem dX8_findBy_7 : decode cX8_findBy 7 = .ok (.if_icmp .ge 63, 3) := by decide +kernel
set_option maxRecDepth 20000 in
theorem dX8_findBy_10 : decode cX8_findBy 10 = .ok (.iconst 0, 1) := by decide +kernel
set_option maxRecDepth 20000 in
theorem dX8_findBy_11 : decode cX8_findBy 11 = .ok (.istore_n 3, 1) := by decide +kernel
set_option maxRecDepth 20000 in
theorem dX8_findBy_12 : decode cX8_findBy 12 = .ok (.iload_n 3, 1) := by decide +kernel
set_option maxRecDepth 20000 in
theorem dX8_findBy_13 : decode cX8_findBy 13 = .ok (.aload_n 0, 1) := by decide +kernel
set_option maxRecDepth 20000 in
theorem dX8_findBy_14 : decode cX8_findBy 14 = .ok (.getfield 97, 3) := by decide +kernel
set_option maxRecDepth 20000 in
theorem dX8_findBy_17 : decode cX8_findBy 17 = .ok (.if_icmp .gt 47, 3) := by decide +kernel
set_option maxRecDepth 20000 in
theorem dX8_findBy_20 : decode cX8_findBy 20 = .ok (.aload_n 0, 1) := by decide +kernel
set_option maxRecDepth 20000 in
theorem dX8_findBy_21 : decode cX8_findBy 21 = .ok (.getfield 30, 3) := by decide +kernel
set_option maxRecDepth 20000 in
theorem dX8_findBy_24 : decode cX8_findBy 24 = .ok (.bipush 7, 2) := by decide +kernel
set_option maxRecDepth 20000 in
theorem dX8_findBy_26 : decode cX8_findBy 26 = .ok (.iload_n 2, 1) := by decide +kernel
set_option maxRecDepth 20000 in
theorem dX8_findBy_27 : decode cX8_findBy 27 = .ok (.imul, 1) := by decide +kernel
set_option maxRecDepth 20000 in
theorem dX8_findBy_28 : decode cX8_findBy 28 = .ok (.iload_n 3, 1) := by decide +kernel
set_option maxRecDepth 20000 in
theorem dX8_findBy_29 : decode cX8_findBy 29 = .ok (.iadd, 1) := by decide +kernel
set_option maxRecDepth 20000 in
theorem dX8_findBy_30 : decode cX8_findBy 30 = .ok (.aload_n 0, 1) := by decide +kernel
set_option maxRecDepth 20000 in
theorem dX8_findBy_31 : decode cX8_findBy 31 = .ok (.iload_n 2, 1) := by decide +kernel
set_option maxRecDepth 20000 in
theorem dX8_findBy_32 : decode cX8_findBy 32 = .ok (.iload_n 3, 1) := by decide +kernel
set_option maxRecDepth 20000 in
theorem dX8_findBy_33 : decode cX8_findBy 33 = .ok (.invokevirtual 111, 3) := by decide +kernel
set_option maxRecDepth 20000 in
theorem dX8_findBy_36 : decode cX8_findBy 36 = .ok (.bipush 7, 2) := by decide +kernel
set_option maxRecDepth 20000 in
theorem dX8_findBy_38 : decode cX8_findBy 38 = .ok (.if_icmp .le 9, 3) := by decide +kernel
set_option maxRecDepth 20000 in
theorem dX8_findBy_41 : decode cX8_findBy 41 = .ok (.ldc2_w 130, 3) := by decide +kernel
set_option maxRecDepth 20000 in
theorem dX8_findBy_44 : decode cX8_findBy 44 = .ok (.goto 13, 3) := by decide +kernel
set_option maxRecDepth 20000 in
theorem dX8_findBy_47 : decode cX8_findBy 47 = .ok (.iload_n 1, 1) := by decide +kernel
set_option maxRecDepth 20000 in
theorem dX8_findBy_48 : decode cX8_findBy 48 = .ok (.aload_n 0, 1) := by decide +kernel
set_option maxRecDepth 20000 in
theorem dX8_findBy_49 : decode cX8_findBy 49 = .ok (.iload_n 2, 1) := by decide +kernel
set_option maxRecDepth 20000 in
theorem dX8_findBy_50 : decode cX8_findBy 50 = .ok (.iload_n 3, 1) := by decide +kernel
set_option maxRecDepth 20000 in
theorem dX8_findBy_51 : decode cX8_findBy 51 = .ok (.invokevirtual 111, 3) := by decide +kernel
set_option maxRecDepth 20000 in
theorem dX8_findBy_54 : decode cX8_findBy 54 = .ok (.invokestatic 140, 3) := by decide +kernel
set_option maxRecDepth 20000 in
theorem dX8_findBy_57 : decode cX8_findBy 57 = .ok (.lastore, 1) := by decide +kernel
set_option maxRecDepth 20000 in
theorem dX8_findBy_58 : decode cX8_findBy 58 = .ok (.iinc 3 1, 3) := by decide +kernel
set_option maxRecDepth 20000 in
theorem dX8_findBy_61 : decode cX8_findBy 61 = .ok (.goto (-49), 3) := by decide +kernel
set_option maxRecDepth 20000 in
theorem dX8_findBy_64 : decode cX8_findBy 64 = .ok (.iinc 2 1, 3) := by decide +kernel
set_option maxRecDepth 20000 in
theorem dX8_findBy_67 : decode cX8_findBy 67 = .ok (.goto (-65), 3) := by decide +kernel
set_option maxRecDepth 20000 in
theorem dX8_findBy_70 : decode cX8_findBy 70 = .ok (.aload_n 0, 1) := by decide +kernel
set_option maxRecDepth 20000 in
theorem dX8_findBy_71 : decode cX8_findBy 71 = .ok (.invokevirtual 144, 3) := by decide +kernel
set_option maxRecDepth 20000 in
theorem dX8_findBy_74 : decode cX8_findBy 74 = .ok (.pop2, 1) := by decide +kernel
set_option maxRecDepth 20000 in
theorem dX8_findBy_75 : decode cX8_findBy 75 = .ok (.return_, 1) := by decide +kernel
def f_X8_findBy_57 (N : Nat) (c_askers : Int32) (c_places : Int32) (c_seats : Nat → Int32) (c_wish : Nat → Int32) (k12 : Int32 → (Nat → Int64) → (Nat → Int32) → (Nat → Int64) → (Nat → Int32) → Int32 → Int32 → Int32 → Option (Int32 × (Nat → Int64) × (Nat → Int32) × (Nat → Int64) × (Nat → Int32))) (c_full : Int32) (c_cost : Nat → Int64) (c_found : Nat → Int32) (c_least : Nat → Int64) (c_weight : Nat → Int32) (v1 : Int32) (v2 : Int32) (v3 : Int32) (s1 : Int32) (s2 : Int64) : Option (Int32 × (Nat → Int64) × (Nat → Int32) × (Nat → Int64) × (Nat → Int32)) :=
    (wrL 56 c_cost s1 s2).bind fun t1 =>
    k12 c_full t1 c_found c_least c_weight v1 v2 (v3 + 1)
set_option maxHeartbeats 4000000 in
set_option maxRecDepth 100000 in
theorem g_X8_findBy_57 {κ : KC} {ω : KW} {A : Nat → Prop} {ad : Nat → Nat} {u_above : Int64} {u_below : Int64} {u_firsts : Int32} {u_freed : Int32} {u_whole : Int64} {N : Nat} {c_askers : Int32} {c_places : Int32} {c_seats : Nat → Int32} {c_wish : Nat → Int32}  {k12 : Int32 → (Nat → Int64) → (Nat → Int32) → (Nat → Int64) → (Nat → Int32) → Int32 → Int32 → Int32 → Option (Int32 × (Nat → Int64) × (Nat → Int32) × (Nat → Int64) × (Nat → Int32))} {res : Int32 × (Nat → Int64) × (Nat → Int32) × (Nat → Int64) × (Nat → Int32)} (hk12 : ∀ {c_full : Int32} {c_cost : Nat → Int64} {c_found : Nat → Int32} {c_least : Nat → Int64} {c_weight : Nat → Int32} {v1 : Int32} {v2 : Int32} {v3 : Int32}, k12 c_full c_cost c_found c_least c_weight v1 v2 v3 = some res → GG mu_X8_findBy κ ω A (QR κ ω A ad (none) (w_X8_findBy c_askers c_places res.1 res.2.1 res.2.2.1 res.2.2.2.1 c_seats res.2.2.2.2 c_wish u_above u_below u_firsts u_freed u_whole)) ad 0 0 12 (w_X8_findBy c_askers c_places c_full c_cost c_found c_least c_seats c_weight c_wish u_above u_below u_firsts u_freed u_whole) [some (.ref 0), some (.int v1), some (.int v2), some (.int v3)] []) {c_full : Int32} {c_cost : Nat → Int64} {c_found : Nat → Int32} {c_least : Nat → Int64} {c_weight : Nat → Int32} {v1 : Int32} {v2 : Int32} {v3 : Int32} {s1 : Int32} {s2 : Int64} (hf : f_X8_findBy_57 N c_askers c_places c_seats c_wish k12 c_full c_cost c_found c_least c_weight v1 v2 v3 s1 s2 = some res) : GG mu_X8_findBy κ ω A (QR κ ω A ad (none) (w_X8_findBy c_askers c_places res.1 res.2.1 res.2.2.1 res.2.2.2.1 c_seats res.2.2.2.2 c_wish u_above u_below u_firsts u_freed u_whole)) ad 0 0 57 (w_X8_findBy c_askers c_places c_full c_cost c_found c_least c_seats c_weight c_wish u_above u_below u_firsts u_freed u_whole) [some (.ref 0), some (.int v1), some (.int v2), some (.int v3)] [.long s2, .int s1, .ref 1] := by
  obtain ⟨t1, ht1, hf⟩ := ob hf
  refine G_last (w2 := (w_X8_findBy c_askers c_places c_full t1 c_found c_least c_seats c_weight c_wish u_above u_below u_firsts u_freed u_whole)) dX8_findBy_57 rfl ht1 rfl ?_
  refine G_iinc 1 dX8_findBy_58 (by decide) rfl (ltb rfl) ?_
  change GG _ _ _ _ _ _ _ _ _ _ [some (.ref 0), some (.int v1), some (.int v2), some (.int (v3 + 1))] _
  refine G_goto 12 dX8_findBy_61 (by decide) ?_
  exact hk12 hf
def f_X8_findBy_12 (N : Nat) (c_askers : Int32) (c_places : Int32) (c_seats : Nat → Int32) (c_wish : Nat → Int32) (k2 : Int32 → (Nat → Int64) → (Nat → Int32) → (Nat → Int64) → (Nat → Int32) → Int32 → Int32 → Option (Int32 × (Nat → Int64) × (Nat → Int32) × (Nat → Int64) × (Nat → Int32))) : Nat → Int32 → (Nat → Int64) → (Nat → Int32) → (Nat → Int64) → (Nat → Int32) → Int32 → Int32 → Int32 → Option (Int32 × (Nat → Int64) × (Nat → Int32) × (Nat → Int64) × (Nat → Int32))
  | 0, _, _, _, _, _, _, _, _ => none
  | n + 1, c_full, c_cost, c_found, c_least, c_weight, v1, v2, v3 =>
    (if c_places < v3 then
      k2 c_full c_cost c_found c_least c_weight v1 (v2 + 1)
    else
      (f_X8_worthOf N c_wish v2 v3).bind fun r2 =>
      (if r2 ≤ 7 then
        (f_X8_worthOf N c_wish v2 v3).bind fun r5 =>
        (f_X8_costBy N v1 r5).bind fun r7 =>
        f_X8_findBy_57 N c_askers c_places c_seats c_wish (f_X8_findBy_12 N c_askers c_places c_seats c_wish k2 n) c_full c_cost c_found c_least c_weight v1 v2 v3 ((7 * v2) + v3) r7
      else
        f_X8_findBy_57 N c_askers c_places c_seats c_wish (f_X8_findBy_12 N c_askers c_places c_seats c_wish k2 n) c_full c_cost c_found c_least c_weight v1 v2 v3 ((7 * v2) + v3) 1000000000000000000))
set_option maxHeartbeats 4000000 in
set_option maxRecDepth 100000 in
theorem g_X8_findBy_12 {κ : KC} {ω : KW} {A : Nat → Prop} {ad : Nat → Nat} {u_above : Int64} {u_below : Int64} {u_firsts : Int32} {u_freed : Int32} {u_whole : Int64} {N : Nat} {c_askers : Int32} {c_places : Int32} {c_seats : Nat → Int32} {c_wish : Nat → Int32}  {k2 : Int32 → (Nat → Int64) → (Nat → Int32) → (Nat → Int64) → (Nat → Int32) → Int32 → Int32 → Option (Int32 × (Nat → Int64) × (Nat → Int32) × (Nat → Int64) × (Nat → Int32))} {res : Int32 × (Nat → Int64) × (Nat → Int32) × (Nat → Int64) × (Nat → Int32)} (hk2 : ∀ {c_full : Int32} {c_cost : Nat → Int64} {c_found : Nat → Int32} {c_least : Nat → Int64} {c_weight : Nat → Int32} {v1 : Int32} {v2 : Int32}, k2 c_full c_cost c_found c_least c_weight v1 v2 = some res → GG mu_X8_findBy κ ω A (QR κ ω A ad (none) (w_X8_findBy c_askers c_places res.1 res.2.1 res.2.2.1 res.2.2.2.1 c_seats res.2.2.2.2 c_wish u_above u_below u_firsts u_freed u_whole)) ad 0 0 2 (w_X8_findBy c_askers c_places c_full c_cost c_found c_least c_seats c_weight c_wish u_above u_below u_firsts u_freed u_whole) [some (.ref 0), some (.int v1), some (.int v2), none] []) : ∀ (n : Nat) {c_full : Int32} {c_cost : Nat → Int64} {c_found : Nat → Int32} {c_least : Nat → Int64} {c_weight : Nat → Int32} {v1 : Int32} {v2 : Int32} {v3 : Int32}, f_X8_findBy_12 N c_askers c_places c_seats c_wish k2 n c_full c_cost c_found c_least c_weight v1 v2 v3 = some res → GG mu_X8_findBy κ ω A (QR κ ω A ad (none) (w_X8_findBy c_askers c_places res.1 res.2.1 res.2.2.1 res.2.2.2.1 c_seats res.2.2.2.2 c_wish u_above u_below u_firsts u_freed u_whole)) ad 0 0 12 (w_X8_findBy c_askers c_places c_full c_cost c_found c_least c_seats c_weight c_wish u_above u_below u_firsts u_freed u_whole) [some (.ref 0), some (.int v1), some (.int v2), some (.int v3)] [] := by
  intro n
  induction n with
  | zero => intro c_full c_cost c_found c_least c_weight v1 v2 v3 hf; exact ob_0 hf
  | succ n ih =>
    intro c_full c_cost c_found c_least c_weight v1 v2 v3 hf
    refine G_iload_n dX8_findBy_12 rfl rfl ?_
    refine G_aload_n dX8_findBy_13 rfl rfl ?_
    refine G_get (v := .int c_places) F_X8_97 dX8_findBy_14 rfl rfl ?_
    refine G_icmp_gt 64 dX8_findBy_17 (by decide) (fun h1 => ?_) (fun h1 => ?_)
    · replace hf := ob_t h1 hf
      refine G_iinc 1 dX8_findBy_64 (by decide) rfl (ltb rfl) ?_
      change GG _ _ _ _ _ _ _ _ _ _ [some (.ref 0), some (.int v1), some (.int (v2 + 1)), some (.int v3)] _
      refine G_goto 2 dX8_findBy_67 (by decide) ?_
      refine GG.sb (lv2 := [some (.ref 0), some (.int v1), some (.int (v2 + 1)), none]) ?_ (lvS_v rfl (lvS_v rfl (lvS_v rfl (lvS_n (lvS_e)))))
      exact hk2 hf
    · replace hf := ob_f h1 hf
      refine G_aload_n dX8_findBy_20 rfl rfl ?_
      refine G_get (v := .ref 1) F_X8_30 dX8_findBy_21 rfl rfl ?_
      refine G_bipush 7 dX8_findBy_24 (by decide) ?_
      refine G_iload_n dX8_findBy_26 rfl rfl ?_
      refine G_imul dX8_findBy_27 ?_
      refine G_iload_n dX8_findBy_28 rfl rfl ?_
      refine G_iadd dX8_findBy_29 ?_
      refine G_aload_n dX8_findBy_30 rfl rfl ?_
      refine G_iload_n dX8_findBy_31 rfl rfl ?_
      refine G_iload_n dX8_findBy_32 rfl rfl ?_
      obtain ⟨r2, hc3, hf⟩ := ob hf
      refine G_callV (μ2 := mu_X8_worthOf) (As := [.int v2, .int v3]) (w2 := (w_X8_findBy c_askers c_places c_full c_cost c_found c_least c_seats c_weight c_wish u_above u_below u_firsts u_freed u_whole)) (wc := (w_X8_worthOf c_wish c_askers c_places u_above u_below c_full u_firsts u_freed u_whole)) (wc2 := (w_X8_worthOf c_wish c_askers c_places u_above u_below c_full u_firsts u_freed u_whole)) (rest := [.int ((7 * v2) + v3), .ref 1]) (rv := [.int r2]) [0, 6] [4, 1000, 5, 1001, 2, 1, 3, 1002, 1003, 1004, 1005, 1006, 1007, 1008, 1009, 1010, 1011, 1012, 1013, 1014] [1, 2, 3, 4, 5] [5, 0, 1, 2, 3, 4, 6] (c_X8_worthOf hc3) cw_X8_worthOf m_X8_111 dX8_findBy_33 rfl ⟨leb rfl, leb rfl⟩ ⟨rfl, rfl⟩ rfl ⟨_, rfl, rfl⟩ (Fit.mk rfl rfl rfl) rfl (leb rfl) (ROsub.nil rfl rfl) rfl ?_
      change GG _ _ _ _ _ _ _ _ _ (w_X8_findBy c_askers c_places c_full c_cost c_found c_least c_seats c_weight c_wish u_above u_below u_firsts u_freed u_whole) [some (.ref 0), some (.int v1), some (.int v2), some (.int v3)] [.int r2, .int ((7 * v2) + v3), .ref 1]
      refine G_bipush 7 dX8_findBy_36 (by decide) ?_
      refine G_icmp_le 47 dX8_findBy_38 (by decide) (fun h4 => ?_) (fun h4 => ?_)
      · replace hf := ob_t h4 hf
        refine G_iload_n dX8_findBy_47 rfl rfl ?_
        refine G_aload_n dX8_findBy_48 rfl rfl ?_
        refine G_iload_n dX8_findBy_49 rfl rfl ?_
        refine G_iload_n dX8_findBy_50 rfl rfl ?_
        obtain ⟨r5, hc6, hf⟩ := ob hf
        refine G_callV (μ2 := mu_X8_worthOf) (As := [.int v2, .int v3]) (w2 := (w_X8_findBy c_askers c_places c_full c_cost c_found c_least c_seats c_weight c_wish u_above u_below u_firsts u_freed u_whole)) (wc := (w_X8_worthOf c_wish c_askers c_places u_above u_below c_full u_firsts u_freed u_whole)) (wc2 := (w_X8_worthOf c_wish c_askers c_places u_above u_below c_full u_firsts u_freed u_whole)) (rest := [.int v1, .int ((7 * v2) + v3), .ref 1]) (rv := [.int r5]) [0, 6] [4, 1000, 5, 1001, 2, 1, 3, 1002, 1003, 1004, 1005, 1006, 1007, 1008, 1009, 1010, 1011, 1012, 1013, 1014] [1, 2, 3, 4, 5] [5, 0, 1, 2, 3, 4, 6] (c_X8_worthOf hc6) cw_X8_worthOf m_X8_111 dX8_findBy_51 rfl ⟨leb rfl, leb rfl⟩ ⟨rfl, rfl⟩ rfl ⟨_, rfl, rfl⟩ (Fit.mk rfl rfl rfl) rfl (leb rfl) (ROsub.nil rfl rfl) rfl ?_
        change GG _ _ _ _ _ _ _ _ _ (w_X8_findBy c_askers c_places c_full c_cost c_found c_least c_seats c_weight c_wish u_above u_below u_firsts u_freed u_whole) [some (.ref 0), some (.int v1), some (.int v2), some (.int v3)] [.int r5, .int v1, .int ((7 * v2) + v3), .ref 1]
        obtain ⟨r7, hc8, hf⟩ := ob hf
        refine G_callS (μ2 := mu_X8_costBy) (As := [.int v1, .int r5]) (w2 := (w_X8_findBy c_askers c_places c_full c_cost c_found c_least c_seats c_weight c_wish u_above u_below u_firsts u_freed u_whole)) (wc := []) (wc2 := []) (rest := [.int ((7 * v2) + v3), .ref 1]) (rv := [.long r7]) [] [] [0, 1, 2, 3, 4, 5, 6] [0, 1, 2, 3, 4, 5, 6] (c_X8_costBy hc8) cw_X8_costBy m_X8_140 rfl dX8_findBy_54 rfl ⟨leb rfl, leb rfl⟩ ⟨rfl, rfl⟩ (Fit.mk rfl rfl rfl) rfl (leb rfl) (ROsub.nil rfl rfl) rfl ?_
        change GG _ _ _ _ _ _ _ _ _ (w_X8_findBy c_askers c_places c_full c_cost c_found c_least c_seats c_weight c_wish u_above u_below u_firsts u_freed u_whole) [some (.ref 0), some (.int v1), some (.int v2), some (.int v3)] [.long r7, .int ((7 * v2) + v3), .ref 1]
        exact g_X8_findBy_57 ih hf
      · replace hf := ob_f h4 hf
        refine G_ldc2 (v := 1000000000000000000) dX8_findBy_41 k_X8_130 ?_
        refine G_goto 57 dX8_findBy_44 (by decide) ?_
        exact g_X8_findBy_57 ih hf
def f_X8_findBy_2 (N : Nat) (c_askers : Int32) (c_places : Int32) (c_seats : Nat → Int32) (c_wish : Nat → Int32) : Nat → Int32 → (Nat → Int64) → (Nat → Int32) → (Nat → Int64) → (Nat → Int32) → Int32 → Int32 → Option (Int32 × (Nat → Int64) × (Nat → Int32) × (Nat → Int64) × (Nat → Int32))
  | 0, _, _, _, _, _, _, _ => none
  | n + 1, c_full, c_cost, c_found, c_least, c_weight, v1, v2 =>
    (if c_askers ≤ v2 then
      (f_X8_findLeast N c_askers c_places c_cost c_seats c_wish c_full c_found c_least c_weight).bind fun (r2, o3, o4, o5, o6) =>
      some (o3, c_cost, o4, o5, o6)
    else
      f_X8_findBy_12 N c_askers c_places c_seats c_wish (f_X8_findBy_2 N c_askers c_places c_seats c_wish n) N c_full c_cost c_found c_least c_weight v1 v2 0)
set_option maxHeartbeats 4000000 in
set_option maxRecDepth 100000 in
theorem g_X8_findBy_2 {κ : KC} {ω : KW} {A : Nat → Prop} {ad : Nat → Nat} {u_above : Int64} {u_below : Int64} {u_firsts : Int32} {u_freed : Int32} {u_whole : Int64} {N : Nat} {c_askers : Int32} {c_places : Int32} {c_seats : Nat → Int32} {c_wish : Nat → Int32}  {res : Int32 × (Nat → Int64) × (Nat → Int32) × (Nat → Int64) × (Nat → Int32)} : ∀ (n : Nat) {c_full : Int32} {c_cost : Nat → Int64} {c_found : Nat → Int32} {c_least : Nat → Int64} {c_weight : Nat → Int32} {v1 : Int32} {v2 : Int32}, f_X8_findBy_2 N c_askers c_places c_seats c_wish n c_full c_cost c_found c_least c_weight v1 v2 = some res → GG mu_X8_findBy κ ω A (QR κ ω A ad (none) (w_X8_findBy c_askers c_places res.1 res.2.1 res.2.2.1 res.2.2.2.1 c_seats res.2.2.2.2 c_wish u_above u_below u_firsts u_freed u_whole)) ad 0 0 2 (w_X8_findBy c_askers c_places c_full c_cost c_found c_least c_seats c_weight c_wish u_above u_below u_firsts u_freed u_whole) [some (.ref 0), some (.int v1), some (.int v2), none] [] := by
  intro n
  induction n with
  | zero => intro c_full c_cost c_found c_least c_weight v1 v2 hf; exact ob_0 hf
  | succ n ih =>
    intro c_full c_cost c_found c_least c_weight v1 v2 hf
    refine G_iload_n dX8_findBy_2 rfl rfl ?_
    refine G_aload_n dX8_findBy_3 rfl rfl ?_
    refine G_get (v := .int c_askers) F_X8_89 dX8_findBy_4 rfl rfl ?_
    refine G_icmp_ge 70 dX8_findBy_7 (by decide) (fun h1 => ?_) (fun h1 => ?_)
    · replace hf := ob_t h1 hf
      refine G_aload_n dX8_findBy_70 rfl rfl ?_
      obtain ⟨⟨r2, o3, o4, o5, o6⟩, hc7, hf⟩ := ob hf
      refine G_callV (μ2 := mu_X8_findLeast) (As := []) (w2 := (w_X8_findBy c_askers c_places o3 c_cost o4 o5 c_seats o6 c_wish u_above u_below u_firsts u_freed u_whole)) (wc := (w_X8_findLeast c_askers c_places c_full c_cost c_found c_least c_seats c_weight c_wish u_above u_below u_firsts u_freed u_whole)) (wc2 := (w_X8_findLeast c_askers c_places o3 c_cost o4 o5 c_seats o6 c_wish u_above u_below u_firsts u_freed u_whole)) (rest := []) (rv := [.long r2]) [0, 1, 2, 3, 4, 5, 6] [1000, 1001, 1002, 1003, 1004, 1005, 1006, 1007, 1008, 1009, 1010, 1011, 1012, 1013, 1014] [] [0, 1, 2, 3, 4, 5, 6] (c_X8_findLeast hc7) cw_X8_findLeast m_X8_144 dX8_findBy_71 rfl ⟨leb rfl, leb rfl⟩ ⟨rfl, rfl⟩ rfl ⟨_, rfl, rfl⟩ (Fit.mk rfl rfl rfl) rfl (leb rfl) (ROsub.nil rfl rfl) rfl ?_
      change GG _ _ _ _ _ _ _ _ _ (w_X8_findBy c_askers c_places o3 c_cost o4 o5 c_seats o6 c_wish u_above u_below u_firsts u_freed u_whole) [some (.ref 0), some (.int v1), some (.int v2), none] [.long r2]
      refine G_pop2 dX8_findBy_74 rfl ?_
      obtain rfl := os hf
      exact G_return dX8_findBy_75 rfl
    · replace hf := ob_f h1 hf
      refine G_iconst 0 dX8_findBy_10 (by decide) ?_
      refine G_istore_n dX8_findBy_11 rfl (ltb rfl) ?_
      change GG _ _ _ _ _ _ _ _ _ _ [some (.ref 0), some (.int v1), some (.int v2), some (.int 0)] _
      exact g_X8_findBy_12 ih N hf
def f_X8_findBy (N : Nat) (c_askers : Int32) (c_places : Int32) (c_seats : Nat → Int32) (c_wish : Nat → Int32) (c_full : Int32) (c_cost : Nat → Int64) (c_found : Nat → Int32) (c_least : Nat → Int64) (c_weight : Nat → Int32) (a1 : Int32) : Option (Int32 × (Nat → Int64) × (Nat → Int32) × (Nat → Int64) × (Nat → Int32)) :=
  f_X8_findBy_2 N c_askers c_places c_seats c_wish N c_full c_cost c_found c_least c_weight a1 0
set_option maxHeartbeats 4000000 in
set_option maxRecDepth 100000 in
theorem c_X8_findBy {N : Nat} {c_askers : Int32} {c_places : Int32} {c_seats : Nat → Int32} {c_wish : Nat → Int32} {c_full : Int32} {c_cost : Nat → Int64} {c_found : Nat → Int32} {c_least : Nat → Int64} {c_weight : Nat → Int32} {u_above : Int64} {u_below : Int64} {u_firsts : Int32} {u_freed : Int32} {u_whole : Int64} {a1 : Int32} {res : Int32 × (Nat → Int64) × (Nat → Int32) × (Nat → Int64) × (Nat → Int32)} (hf : f_X8_findBy N c_askers c_places c_seats c_wish c_full c_cost c_found c_least c_weight a1 = some res) : Con mu_X8_findBy [.ref 0, .int a1] (w_X8_findBy c_askers c_places c_full c_cost c_found c_least c_seats c_weight c_wish u_above u_below u_firsts u_freed u_whole) (none) (w_X8_findBy c_askers c_places res.1 res.2.1 res.2.2.1 res.2.2.2.1 c_seats res.2.2.2.2 c_wish u_above u_below u_firsts u_freed u_whole) := by
  refine Con.mk (show plainName RX8 = true by decide +kernel) (leb rfl) (fun κ ω A ad => ?_)
  change GG mu_X8_findBy κ ω A (QR κ ω A ad (none) (w_X8_findBy c_askers c_places res.1 res.2.1 res.2.2.1 res.2.2.2.1 c_seats res.2.2.2.2 c_wish u_above u_below u_firsts u_freed u_whole)) ad 0 0 0 (w_X8_findBy c_askers c_places c_full c_cost c_found c_least c_seats c_weight c_wish u_above u_below u_firsts u_freed u_whole) [some (.ref 0), some (.int a1), none, none] []
  refine G_iconst 0 dX8_findBy_0 (by decide) ?_
  refine G_istore_n dX8_findBy_1 rfl (ltb rfl) ?_
  change GG _ _ _ _ _ _ _ _ _ _ [some (.ref 0), some (.int a1), some (.int 0), none] _
  exact g_X8_findBy_2 N hf
set_option maxRecDepth 20000 in
theorem dX8_findBeater_0 : decode cX8_findBeater 0 = .ok (.iconst 0, 1) := by decide +kernel
set_option maxRecDepth 20000 in
theorem dX8_findBeater_1 : decode cX8_findBeater 1 = .ok (.istore_n 3, 1) := by decide +kernel
set_option maxRecDepth 20000 in
theorem dX8_findBeater_2 : decode cX8_findBeater 2 = .ok (.iload_n 3, 1) := by decide +kernel
set_option maxRecDepth 20000 in
theorem dX8_findBeater_3 : decode cX8_findBeater 3 = .ok (.aload_n 0, 1) := by decide +kernel
set_option maxRecDepth 20000 in
theorem dX8_findBeater_4 : decode cX8_findBeater 4 = .ok (.getfield 89, 3) := by decide +kernel
set_option maxRecDepth 20000 in
theorem dX8_findBeater_7 : decode cX8_findBeater 7 = .ok (.if_icmp .ge 115, 3) := by decide +kernel
set_option maxRecDepth 20000 in
theorem dX8_findBeater_10 : decode cX8_findBeater 10 = .ok (.aload_n 0, 1) := by decide +kernel
set_option maxRecDepth 20000 in
theorem dX8_findBeater_11 : decode cX8_findBeater 11 = .ok (.iload_n 3, 1) := by decide +kernel
set_option maxRecDepth 20000 in
theorem dX8_findBeater_12 : decode cX8_findBeater 12 = .ok (.aload_n 0, 1) := by decide +kernel
set_option maxRecDepth 20000 in
theorem dX8_findBeater_13 : decode cX8_findBeater 13 = .ok (.getfield 16, 3) := by decide +kernel
set_option maxRecDepth 20000 in
theorem dX8_findBeater_16 : decode cX8_findBeater 16 = .ok (.bipush 8, 2) := by decide +kernel
set_option maxRecDepth 20000 in
theorem dX8_findBeater_18 : decode cX8_findBeater 18 = .ok (.iload_n 1, 1) := by decide +kernel
set_option maxRecDepth 20000 in
theorem dX8_findBeater_19 : decode cX8_findBeater 19 = .ok (.imul, 1) := by decide +kernel
set_option maxRecDepth 20000 in
theorem dX8_findBeater_20 : decode cX8_findBeater 20 = .ok (.iload_n 3, 1) := by decide +kernel
set_option maxRecDepth 20000 in
theorem dX8_findBeater_21 : decode cX8_findBeater 21 = .ok (.iadd, 1) := by decide +kernel
set_option maxRecDepth 20000 in
theorem dX8_findBeater_22 : decode cX8_findBeater 22 = .ok (.iaload, 1) := by decide +kernel
set_option maxRecDepth 20000 in
theorem dX8_findBeater_23 : decode cX8_findBeater 23 = .ok (.invokevirtual 111, 3) := by decide +kernel
set_option maxRecDepth 20000 in
theorem dX8_findBeater_26 : decode cX8_findBeater 26 = .ok (.istore 4, 2) := by decide +kernel
set_option maxRecDepth 20000 in
theorem dX8_findBeater_28 : decode cX8_findBeater 28 = .ok (.iconst 0, 1) := by decide +kernel
set_option maxRecDepth 20000 in
theorem dX8_findBeater_29 : decode cX8_findBeater 29 = .ok (.istore 5, 2) := by decide +kernel
set_option maxRecDepth 20000 in
theorem dX8_findBeater_31 : decode cX8_findBeater 31 = .ok (.iload 5, 2) := by decide +kernel
set_option maxRecDepth 20000 in
theorem dX8_findBeater_33 : decode cX8_findBeater 33 = .ok (.aload_n 0, 1) := by decide +kernel
set_option maxRecDepth 20000 in
theorem dX8_findBeater_34 : decode cX8_findBeater 34 = .ok (.getfield 97, 3) := by decide +kernel
set_option maxRecDepth 20000 in
theorem dX8_findBeater_37 : decode cX8_findBeater 37 = .ok (.if_icmp .gt 79, 3) := by decide +kernel
set_option maxRecDepth 20000 in
theorem dX8_findBeater_40 : decode cX8_findBeater 40 = .ok (.aload_n 0, 1) := by decide +kernel
set_option maxRecDepth 20000 in
theorem dX8_findBeater_41 : decode cX8_findBeater 41 = .ok (.iload_n 3, 1) := by decide +kernel
set_option maxRecDepth 20000 in
theorem dX8_findBeater_42 : decode cX8_findBeater 42 = .ok (.iload 5, 2) := by decide +kernel
set_option maxRecDepth 20000 in
theorem dX8_findBeater_44 : decode cX8_findBeater 44 = .ok (.invokevirtual 111, 3) := by decide +kernel
set_option maxRecDepth 20000 in
theorem dX8_findBeater_47 : decode cX8_findBeater 47 = .ok (.istore 6, 2) := by decide +kernel
set_option maxRecDepth 20000 in
theorem dX8_findBeater_49 : decode cX8_findBeater 49 = .ok (.aload_n 0, 1) := by decide +kernel
set_option maxRecDepth 20000 in
theorem dX8_findBeater_50 : decode cX8_findBeater 50 = .ok (.getfield 30, 3) := by decide +kernel
set_option maxRecDepth 20000 in
theorem dX8_findBeater_53 : decode cX8_findBeater 53 = .ok (.bipush 7, 2) := by decide +kernel
set_option maxRecDepth 20000 in
theorem dX8_findBeater_55 : decode cX8_findBeater 55 = .ok (.iload_n 3, 1) := by decide +kernel
set_option maxRecDepth 20000 in
theorem dX8_findBeater_56 : decode cX8_findBeater 56 = .ok (.imul, 1) := by decide +kernel
set_option maxRecDepth 20000 in
theorem dX8_findBeater_57 : decode cX8_findBeater 57 = .ok (.iload 5, 2) := by decide +kernel
set_option maxRecDepth 20000 in
theorem dX8_findBeater_59 : decode cX8_findBeater 59 = .ok (.iadd, 1) := by decide +kernel
set_option maxRecDepth 20000 in
theorem dX8_findBeater_60 : decode cX8_findBeater 60 = .ok (.iload 6, 2) := by decide +kernel
set_option maxRecDepth 20000 in
theorem dX8_findBeater_62 : decode cX8_findBeater 62 = .ok (.bipush 7, 2) := by decide +kernel
set_option maxRecDepth 20000 in
theorem dX8_findBeater_64 : decode cX8_findBeater 64 = .ok (.if_icmp .gt 14, 3) := by decide +kernel
set_option maxRecDepth 20000 in
theorem dX8_findBeater_67 : decode cX8_findBeater 67 = .ok (.iload_n 2, 1) := by decide +kernel
set_option maxRecDepth 20000 in
theorem dX8_findBeater_68 : decode cX8_findBeater 68 = .ok (.ifCond .eq 16, 3) := by decide +kernel
set_option maxRecDepth 20000 in
theorem dX8_findBeater_71 : decode cX8_findBeater 71 = .ok (.iload 6, 2) := by decide +kernel
set_option maxRecDepth 20000 in
theorem dX8_findBeater_73 : decode cX8_findBeater 73 = .ok (.iload 4, 2) := by decide +kernel
set_option maxRecDepth 20000 in
theorem dX8_findBeater_75 : decode cX8_findBeater 75 = .ok (.if_icmp .le 9, 3) := by decide +kernel
set_option maxRecDepth 20000 in
theorem dX8_findBeater_78 : decode cX8_findBeater 78 = .ok (.ldc2_w 130, 3) := by decide +kernel
set_option maxRecDepth 20000 in
theorem dX8_findBeater_81 : decode cX8_findBeater 81 = .ok (.goto 28, 3) := by decide +kernel
set_option maxRecDepth 20000 in
theorem dX8_findBeater_84 : decode cX8_findBeater 84 = .ok (.iload 6, 2) := by decide +kernel
set_option maxRecDepth 20000 in
theorem dX8_findBeater_86 : decode cX8_findBeater 86 = .ok (.iload 4, 2) := by decide +kernel
set_option maxRecDepth 20000 in
theorem dX8_findBeater_88 : decode cX8_findBeater 88 = .ok (.if_icmp .ge 9, 3) := by decide +kernel
set_option maxRecDepth 20000 in
theorem dX8_findBeater_91 : decode cX8_findBeater 91 = .ok (.ldc2_w 148, 3) := by decide +kernel
set_option maxRecDepth 20000 in
theorem dX8_findBeater_94 : decode cX8_findBeater 94 = .ok (.goto 15, 3) := by decide +kernel
set_option maxRecDepth 20000 in
theorem dX8_findBeater_97 : decode cX8_findBeater 97 = .ok (.iload 6, 2) := by decide +kernel
set_option maxRecDepth 20000 in
theorem dX8_findBeater_99 : decode cX8_findBeater 99 = .ok (.iload 4, 2) := by decide +kernel
set_option maxRecDepth 20000 in
theorem dX8_findBeater_101 : decode cX8_findBeater 101 = .ok (.if_icmp .le 7, 3) := by decide +kernel
set_option maxRecDepth 20000 in
theorem dX8_findBeater_104 : decode cX8_findBeater 104 = .ok (.lconst 1, 1) := by decide +kernel
set_option maxRecDepth 20000 in
theorem dX8_findBeater_105 : decode cX8_findBeater 105 = .ok (.goto 4, 3) := by decide +kernel
set_option maxRecDepth 20000 in
theorem dX8_findBeater_108 : decode cX8_findBeater 108 = .ok (.lconst 0, 1) := by decide +kernel
set_option maxRecDepth 20000 in
theorem dX8_findBeater_109 : decode cX8_findBeater 109 = .ok (.lastore, 1) := by decide +kernel
set_option maxRecDepth 20000 in
theorem dX8_findBeater_110 : decode cX8_findBeater 110 = .ok (.iinc 5 1, 3) := by decide +kernel
set_option maxRecDepth 20000 in
theorem dX8_findBeater_113 : decode cX8_findBeater 113 = .ok (.goto (-82), 3) := by decide +kernel
set_option maxRecDepth 20000 in
theorem dX8_findBeater_116 : decode cX8_findBeater 116 = .ok (.iinc 3 1, 3) := by decide +kernel
set_option maxRecDepth 20000 in
theorem dX8_findBeater_119 : decode cX8_findBeater 119 = .ok (.goto (-117), 3) := by decide +kernel
set_option maxRecDepth 20000 in
theorem dX8_findBeater_122 : decode cX8_findBeater 122 = .ok (.aload_n 0, 1) := by decide +kernel
set_option maxRecDepth 20000 in
theorem dX8_findBeater_123 : decode cX8_findBeater 123 = .ok (.invokevirtual 144, 3) := by decide +kernel
set_option maxRecDepth 20000 in
theorem dX8_findBeater_126 : decode cX8_findBeater 126 = .ok (.lneg, 1) := by decide +kernel
set_option maxRecDepth 20000 in
theorem dX8_findBeater_127 : decode cX8_findBeater 127 = .ok (.l2i, 1) := by decide +kernel
set_option maxRecDepth 20000 in
theorem dX8_findBeater_128 : decode cX8_findBeater 128 = .ok (.ireturn, 1) := by decide +kernel
def f_X8_findBeater_109 (N : Nat) (c_askers : Int32) (c_places : Int32) (c_seats : Nat → Int32) (c_told : Nat → Int32) (c_wish : Nat → Int32) (k31 : Int32 → (Nat → Int64) → (Nat → Int32) → (Nat → Int64) → (Nat → Int32) → Int32 → Int32 → Int32 → Int32 → Int32 → Option (Int32 × Int32 × (Nat → Int64) × (Nat → Int32) × (Nat → Int64) × (Nat → Int32))) (c_full : Int32) (c_cost : Nat → Int64) (c_found : Nat → Int32) (c_least : Nat → Int64) (c_weight : Nat → Int32) (v1 : Int32) (v2 : Int32) (v3 : Int32) (v4 : Int32) (v5 : Int32) (s1 : Int32) (s2 : Int64) : Option (Int32 × Int32 × (Nat → Int64) × (Nat → Int32) × (Nat → Int64) × (Nat → Int32)) :=
    (wrL 56 c_cost s1 s2).bind fun t1 =>
    k31 c_full t1 c_found c_least c_weight v1 v2 v3 v4 (v5 + 1)
set_option maxHeartbeats 4000000 in
set_option maxRecDepth 100000 in
theorem g_X8_findBeater_109 {κ : KC} {ω : KW} {A : Nat → Prop} {ad : Nat → Nat} {u_above : Int64} {u_below : Int64} {u_firsts : Int32} {u_freed : Int32} {u_whole : Int64} {N : Nat} {c_askers : Int32} {c_places : Int32} {c_seats : Nat → Int32} {c_told : Nat → Int32} {c_wish : Nat → Int32}  {k31 : Int32 → (Nat → Int64) → (Nat → Int32) → (Nat → Int64) → (Nat → Int32) → Int32 → Int32 → Int32 → Int32 → Int32 → Option (Int32 × Int32 × (Nat → Int64) × (Nat → Int32) × (Nat → Int64) × (Nat → Int32))} {res : Int32 × Int32 × (Nat → Int64) × (Nat → Int32) × (Nat → Int64) × (Nat → Int32)} (hk31 : ∀ {c_full : Int32} {c_cost : Nat → Int64} {c_found : Nat → Int32} {c_least : Nat → Int64} {c_weight : Nat → Int32} {v1 : Int32} {v2 : Int32} {v3 : Int32} {v4 : Int32} {v5 : Int32}, k31 c_full c_cost c_found c_least c_weight v1 v2 v3 v4 v5 = some res → GG mu_X8_findBeater κ ω A (QR κ ω A ad (some (.int res.1)) (w_X8_findBeater c_askers c_places res.2.1 res.2.2.1 res.2.2.2.1 res.2.2.2.2.1 c_seats c_told res.2.2.2.2.2 c_wish u_above u_below u_firsts u_freed u_whole)) ad 0 0 31 (w_X8_findBeater c_askers c_places c_full c_cost c_found c_least c_seats c_told c_weight c_wish u_above u_below u_firsts u_freed u_whole) [some (.ref 0), some (.int v1), some (.int v2), some (.int v3), some (.int v4), some (.int v5), none] []) {c_full : Int32} {c_cost : Nat → Int64} {c_found : Nat → Int32} {c_least : Nat → Int64} {c_weight : Nat → Int32} {v1 : Int32} {v2 : Int32} {v3 : Int32} {v4 : Int32} {v5 : Int32} {s1 : Int32} {s2 : Int64} (hf : f_X8_findBeater_109 N c_askers c_places c_seats c_told c_wish k31 c_full c_cost c_found c_least c_weight v1 v2 v3 v4 v5 s1 s2 = some res) : GG mu_X8_findBeater κ ω A (QR κ ω A ad (some (.int res.1)) (w_X8_findBeater c_askers c_places res.2.1 res.2.2.1 res.2.2.2.1 res.2.2.2.2.1 c_seats c_told res.2.2.2.2.2 c_wish u_above u_below u_firsts u_freed u_whole)) ad 0 0 109 (w_X8_findBeater c_askers c_places c_full c_cost c_found c_least c_seats c_told c_weight c_wish u_above u_below u_firsts u_freed u_whole) [some (.ref 0), some (.int v1), some (.int v2), some (.int v3), some (.int v4), some (.int v5), none] [.long s2, .int s1, .ref 1] := by
  obtain ⟨t1, ht1, hf⟩ := ob hf
  refine G_last (w2 := (w_X8_findBeater c_askers c_places c_full t1 c_found c_least c_seats c_told c_weight c_wish u_above u_below u_firsts u_freed u_whole)) dX8_findBeater_109 rfl ht1 rfl ?_
  refine G_iinc 1 dX8_findBeater_110 (by decide) rfl (ltb rfl) ?_
  change GG _ _ _ _ _ _ _ _ _ _ [some (.ref 0), some (.int v1), some (.int v2), some (.int v3), some (.int v4), some (.int (v5 + 1)), none] _
  refine G_goto 31 dX8_findBeater_113 (by decide) ?_
  exact hk31 hf
def f_X8_findBeater_84 (N : Nat) (c_askers : Int32) (c_places : Int32) (c_seats : Nat → Int32) (c_told : Nat → Int32) (c_wish : Nat → Int32) (k31 : Int32 → (Nat → Int64) → (Nat → Int32) → (Nat → Int64) → (Nat → Int32) → Int32 → Int32 → Int32 → Int32 → Int32 → Option (Int32 × Int32 × (Nat → Int64) × (Nat → Int32) × (Nat → Int64) × (Nat → Int32))) (c_full : Int32) (c_cost : Nat → Int64) (c_found : Nat → Int32) (c_least : Nat → Int64) (c_weight : Nat → Int32) (v1 : Int32) (v2 : Int32) (v3 : Int32) (v4 : Int32) (v5 : Int32) (v6 : Int32) (s1 : Int32) : Option (Int32 × Int32 × (Nat → Int64) × (Nat → Int32) × (Nat → Int64) × (Nat → Int32)) :=
    (if v4 ≤ v6 then
      (if v6 ≤ v4 then
        f_X8_findBeater_109 N c_askers c_places c_seats c_told c_wish k31 c_full c_cost c_found c_least c_weight v1 v2 v3 v4 v5 s1 0
      else
        f_X8_findBeater_109 N c_askers c_places c_seats c_told c_wish k31 c_full c_cost c_found c_least c_weight v1 v2 v3 v4 v5 s1 1)
    else
      f_X8_findBeater_109 N c_askers c_places c_seats c_told c_wish k31 c_full c_cost c_found c_least c_weight v1 v2 v3 v4 v5 s1 (-1 : Int64))
set_option maxHeartbeats 4000000 in
set_option maxRecDepth 100000 in
theorem g_X8_findBeater_84 {κ : KC} {ω : KW} {A : Nat → Prop} {ad : Nat → Nat} {u_above : Int64} {u_below : Int64} {u_firsts : Int32} {u_freed : Int32} {u_whole : Int64} {N : Nat} {c_askers : Int32} {c_places : Int32} {c_seats : Nat → Int32} {c_told : Nat → Int32} {c_wish : Nat → Int32}  {k31 : Int32 → (Nat → Int64) → (Nat → Int32) → (Nat → Int64) → (Nat → Int32) → Int32 → Int32 → Int32 → Int32 → Int32 → Option (Int32 × Int32 × (Nat → Int64) × (Nat → Int32) × (Nat → Int64) × (Nat → Int32))} {res : Int32 × Int32 × (Nat → Int64) × (Nat → Int32) × (Nat → Int64) × (Nat → Int32)} (hk31 : ∀ {c_full : Int32} {c_cost : Nat → Int64} {c_found : Nat → Int32} {c_least : Nat → Int64} {c_weight : Nat → Int32} {v1 : Int32} {v2 : Int32} {v3 : Int32} {v4 : Int32} {v5 : Int32}, k31 c_full c_cost c_found c_least c_weight v1 v2 v3 v4 v5 = some res → GG mu_X8_findBeater κ ω A (QR κ ω A ad (some (.int res.1)) (w_X8_findBeater c_askers c_places res.2.1 res.2.2.1 res.2.2.2.1 res.2.2.2.2.1 c_seats c_told res.2.2.2.2.2 c_wish u_above u_below u_firsts u_freed u_whole)) ad 0 0 31 (w_X8_findBeater c_askers c_places c_full c_cost c_found c_least c_seats c_told c_weight c_wish u_above u_below u_firsts u_freed u_whole) [some (.ref 0), some (.int v1), some (.int v2), some (.int v3), some (.int v4), some (.int v5), none] []) {c_full : Int32} {c_cost : Nat → Int64} {c_found : Nat → Int32} {c_least : Nat → Int64} {c_weight : Nat → Int32} {v1 : Int32} {v2 : Int32} {v3 : Int32} {v4 : Int32} {v5 : Int32} {v6 : Int32} {s1 : Int32} (hf : f_X8_findBeater_84 N c_askers c_places c_seats c_told c_wish k31 c_full c_cost c_found c_least c_weight v1 v2 v3 v4 v5 v6 s1 = some res) : GG mu_X8_findBeater κ ω A (QR κ ω A ad (some (.int res.1)) (w_X8_findBeater c_askers c_places res.2.1 res.2.2.1 res.2.2.2.1 res.2.2.2.2.1 c_seats c_told res.2.2.2.2.2 c_wish u_above u_below u_firsts u_freed u_whole)) ad 0 0 84 (w_X8_findBeater c_askers c_places c_full c_cost c_found c_least c_seats c_told c_weight c_wish u_above u_below u_firsts u_freed u_whole) [some (.ref 0), some (.int v1), some (.int v2), some (.int v3), some (.int v4), some (.int v5), some (.int v6)] [.int s1, .ref 1] := by
  refine G_iload dX8_findBeater_84 rfl ?_
  refine G_iload dX8_findBeater_86 rfl ?_
  refine G_icmp_ge 97 dX8_findBeater_88 (by decide) (fun h1 => ?_) (fun h1 => ?_)
  · replace hf := ob_t h1 hf
    refine G_iload dX8_findBeater_97 rfl ?_
    refine G_iload dX8_findBeater_99 rfl ?_
    refine G_icmp_le 108 dX8_findBeater_101 (by decide) (fun h2 => ?_) (fun h2 => ?_)
    · replace hf := ob_t h2 hf
      refine G_lconst 0 dX8_findBeater_108 (by decide) ?_
      refine GG.sb (lv2 := [some (.ref 0), some (.int v1), some (.int v2), some (.int v3), some (.int v4), some (.int v5), none]) ?_ (lvS_v rfl (lvS_v rfl (lvS_v rfl (lvS_v rfl (lvS_v rfl (lvS_v rfl (lvS_n (lvS_e))))))))
      exact g_X8_findBeater_109 hk31 hf
    · replace hf := ob_f h2 hf
      refine G_lconst 1 dX8_findBeater_104 (by decide) ?_
      refine G_goto 109 dX8_findBeater_105 (by decide) ?_
      refine GG.sb (lv2 := [some (.ref 0), some (.int v1), some (.int v2), some (.int v3), some (.int v4), some (.int v5), none]) ?_ (lvS_v rfl (lvS_v rfl (lvS_v rfl (lvS_v rfl (lvS_v rfl (lvS_v rfl (lvS_n (lvS_e))))))))
      exact g_X8_findBeater_109 hk31 hf
  · replace hf := ob_f h1 hf
    refine G_ldc2 (v := (-1 : Int64)) dX8_findBeater_91 k_X8_148 ?_
    refine G_goto 109 dX8_findBeater_94 (by decide) ?_
    refine GG.sb (lv2 := [some (.ref 0), some (.int v1), some (.int v2), some (.int v3), some (.int v4), some (.int v5), none]) ?_ (lvS_v rfl (lvS_v rfl (lvS_v rfl (lvS_v rfl (lvS_v rfl (lvS_v rfl (lvS_n (lvS_e))))))))
    exact g_X8_findBeater_109 hk31 hf
def f_X8_findBeater_78 (N : Nat) (c_askers : Int32) (c_places : Int32) (c_seats : Nat → Int32) (c_told : Nat → Int32) (c_wish : Nat → Int32) (k31 : Int32 → (Nat → Int64) → (Nat → Int32) → (Nat → Int64) → (Nat → Int32) → Int32 → Int32 → Int32 → Int32 → Int32 → Option (Int32 × Int32 × (Nat → Int64) × (Nat → Int32) × (Nat → Int64) × (Nat → Int32))) (c_full : Int32) (c_cost : Nat → Int64) (c_found : Nat → Int32) (c_least : Nat → Int64) (c_weight : Nat → Int32) (v1 : Int32) (v2 : Int32) (v3 : Int32) (v4 : Int32) (v5 : Int32) (s1 : Int32) : Option (Int32 × Int32 × (Nat → Int64) × (Nat → Int32) × (Nat → Int64) × (Nat → Int32)) :=
    f_X8_findBeater_109 N c_askers c_places c_seats c_told c_wish k31 c_full c_cost c_found c_least c_weight v1 v2 v3 v4 v5 s1 1000000000000000000
set_option maxHeartbeats 4000000 in
set_option maxRecDepth 100000 in
theorem g_X8_findBeater_78 {κ : KC} {ω : KW} {A : Nat → Prop} {ad : Nat → Nat} {u_above : Int64} {u_below : Int64} {u_firsts : Int32} {u_freed : Int32} {u_whole : Int64} {N : Nat} {c_askers : Int32} {c_places : Int32} {c_seats : Nat → Int32} {c_told : Nat → Int32} {c_wish : Nat → Int32}  {k31 : Int32 → (Nat → Int64) → (Nat → Int32) → (Nat → Int64) → (Nat → Int32) → Int32 → Int32 → Int32 → Int32 → Int32 → Option (Int32 × Int32 × (Nat → Int64) × (Nat → Int32) × (Nat → Int64) × (Nat → Int32))} {res : Int32 × Int32 × (Nat → Int64) × (Nat → Int32) × (Nat → Int64) × (Nat → Int32)} (hk31 : ∀ {c_full : Int32} {c_cost : Nat → Int64} {c_found : Nat → Int32} {c_least : Nat → Int64} {c_weight : Nat → Int32} {v1 : Int32} {v2 : Int32} {v3 : Int32} {v4 : Int32} {v5 : Int32}, k31 c_full c_cost c_found c_least c_weight v1 v2 v3 v4 v5 = some res → GG mu_X8_findBeater κ ω A (QR κ ω A ad (some (.int res.1)) (w_X8_findBeater c_askers c_places res.2.1 res.2.2.1 res.2.2.2.1 res.2.2.2.2.1 c_seats c_told res.2.2.2.2.2 c_wish u_above u_below u_firsts u_freed u_whole)) ad 0 0 31 (w_X8_findBeater c_askers c_places c_full c_cost c_found c_least c_seats c_told c_weight c_wish u_above u_below u_firsts u_freed u_whole) [some (.ref 0), some (.int v1), some (.int v2), some (.int v3), some (.int v4), some (.int v5), none] []) {c_full : Int32} {c_cost : Nat → Int64} {c_found : Nat → Int32} {c_least : Nat → Int64} {c_weight : Nat → Int32} {v1 : Int32} {v2 : Int32} {v3 : Int32} {v4 : Int32} {v5 : Int32} {s1 : Int32} (hf : f_X8_findBeater_78 N c_askers c_places c_seats c_told c_wish k31 c_full c_cost c_found c_least c_weight v1 v2 v3 v4 v5 s1 = some res) : GG mu_X8_findBeater κ ω A (QR κ ω A ad (some (.int res.1)) (w_X8_findBeater c_askers c_places res.2.1 res.2.2.1 res.2.2.2.1 res.2.2.2.2.1 c_seats c_told res.2.2.2.2.2 c_wish u_above u_below u_firsts u_freed u_whole)) ad 0 0 78 (w_X8_findBeater c_askers c_places c_full c_cost c_found c_least c_seats c_told c_weight c_wish u_above u_below u_firsts u_freed u_whole) [some (.ref 0), some (.int v1), some (.int v2), some (.int v3), some (.int v4), some (.int v5), none] [.int s1, .ref 1] := by
  refine G_ldc2 (v := 1000000000000000000) dX8_findBeater_78 k_X8_130 ?_
  refine G_goto 109 dX8_findBeater_81 (by decide) ?_
  exact g_X8_findBeater_109 hk31 hf
def f_X8_findBeater_31 (N : Nat) (c_askers : Int32) (c_places : Int32) (c_seats : Nat → Int32) (c_told : Nat → Int32) (c_wish : Nat → Int32) (k2 : Int32 → (Nat → Int64) → (Nat → Int32) → (Nat → Int64) → (Nat → Int32) → Int32 → Int32 → Int32 → Option (Int32 × Int32 × (Nat → Int64) × (Nat → Int32) × (Nat → Int64) × (Nat → Int32))) : Nat → Int32 → (Nat → Int64) → (Nat → Int32) → (Nat → Int64) → (Nat → Int32) → Int32 → Int32 → Int32 → Int32 → Int32 → Option (Int32 × Int32 × (Nat → Int64) × (Nat → Int32) × (Nat → Int64) × (Nat → Int32))
  | 0, _, _, _, _, _, _, _, _, _, _ => none
  | n + 1, c_full, c_cost, c_found, c_least, c_weight, v1, v2, v3, v4, v5 =>
    (if c_places < v5 then
      k2 c_full c_cost c_found c_least c_weight v1 v2 (v3 + 1)
    else
      (f_X8_worthOf N c_wish v3 v5).bind fun r2 =>
      (if 7 < r2 then
        f_X8_findBeater_78 N c_askers c_places c_seats c_told c_wish (f_X8_findBeater_31 N c_askers c_places c_seats c_told c_wish k2 n) c_full c_cost c_found c_least c_weight v1 v2 v3 v4 v5 ((7 * v3) + v5)
      else
        (if v2 = 0 then
          f_X8_findBeater_84 N c_askers c_places c_seats c_told c_wish (f_X8_findBeater_31 N c_askers c_places c_seats c_told c_wish k2 n) c_full c_cost c_found c_least c_weight v1 v2 v3 v4 v5 r2 ((7 * v3) + v5)
        else
          (if r2 ≤ v4 then
            f_X8_findBeater_84 N c_askers c_places c_seats c_told c_wish (f_X8_findBeater_31 N c_askers c_places c_seats c_told c_wish k2 n) c_full c_cost c_found c_least c_weight v1 v2 v3 v4 v5 r2 ((7 * v3) + v5)
          else
            f_X8_findBeater_78 N c_askers c_places c_seats c_told c_wish (f_X8_findBeater_31 N c_askers c_places c_seats c_told c_wish k2 n) c_full c_cost c_found c_least c_weight v1 v2 v3 v4 v5 ((7 * v3) + v5)))))
set_option maxHeartbeats 4000000 in
set_option maxRecDepth 100000 in
theorem g_X8_findBeater_31 {κ : KC} {ω : KW} {A : Nat → Prop} {ad : Nat → Nat} {u_above : Int64} {u_below : Int64} {u_firsts : Int32} {u_freed : Int32} {u_whole : Int64} {N : Nat} {c_askers : Int32} {c_places : Int32} {c_seats : Nat → Int32} {c_told : Nat → Int32} {c_wish : Nat → Int32}  {k2 : Int32 → (Nat → Int64) → (Nat → Int32) → (Nat → Int64) → (Nat → Int32) → Int32 → Int32 → Int32 → Option (Int32 × Int32 × (Nat → Int64) × (Nat → Int32) × (Nat → Int64) × (Nat → Int32))} {res : Int32 × Int32 × (Nat → Int64) × (Nat → Int32) × (Nat → Int64) × (Nat → Int32)} (hk2 : ∀ {c_full : Int32} {c_cost : Nat → Int64} {c_found : Nat → Int32} {c_least : Nat → Int64} {c_weight : Nat → Int32} {v1 : Int32} {v2 : Int32} {v3 : Int32}, k2 c_full c_cost c_found c_least c_weight v1 v2 v3 = some res → GG mu_X8_findBeater κ ω A (QR κ ω A ad (some (.int res.1)) (w_X8_findBeater c_askers c_places res.2.1 res.2.2.1 res.2.2.2.1 res.2.2.2.2.1 c_seats c_told res.2.2.2.2.2 c_wish u_above u_below u_firsts u_freed u_whole)) ad 0 0 2 (w_X8_findBeater c_askers c_places c_full c_cost c_found c_least c_seats c_told c_weight c_wish u_above u_below u_firsts u_freed u_whole) [some (.ref 0), some (.int v1), some (.int v2), some (.int v3), none, none, none] []) : ∀ (n : Nat) {c_full : Int32} {c_cost : Nat → Int64} {c_found : Nat → Int32} {c_least : Nat → Int64} {c_weight : Nat → Int32} {v1 : Int32} {v2 : Int32} {v3 : Int32} {v4 : Int32} {v5 : Int32}, f_X8_findBeater_31 N c_askers c_places c_seats c_told c_wish k2 n c_full c_cost c_found c_least c_weight v1 v2 v3 v4 v5 = some res → GG mu_X8_findBeater κ ω A (QR κ ω A ad (some (.int res.1)) (w_X8_findBeater c_askers c_places res.2.1 res.2.2.1 res.2.2.2.1 res.2.2.2.2.1 c_seats c_told res.2.2.2.2.2 c_wish u_above u_below u_firsts u_freed u_whole)) ad 0 0 31 (w_X8_findBeater c_askers c_places c_full c_cost c_found c_least c_seats c_told c_weight c_wish u_above u_below u_firsts u_freed u_whole) [some (.ref 0), some (.int v1), some (.int v2), some (.int v3), some (.int v4), some (.int v5), none] [] := by
  intro n
  induction n with
  | zero => intro c_full c_cost c_found c_least c_weight v1 v2 v3 v4 v5 hf; exact ob_0 hf
  | succ n ih =>
    intro c_full c_cost c_found c_least c_weight v1 v2 v3 v4 v5 hf
    refine G_iload dX8_findBeater_31 rfl ?_
    refine G_aload_n dX8_findBeater_33 rfl rfl ?_
    refine G_get (v := .int c_places) F_X8_97 dX8_findBeater_34 rfl rfl ?_
    refine G_icmp_gt 116 dX8_findBeater_37 (by decide) (fun h1 => ?_) (fun h1 => ?_)
    · replace hf := ob_t h1 hf
      refine G_iinc 1 dX8_findBeater_116 (by decide) rfl (ltb rfl) ?_
      change GG _ _ _ _ _ _ _ _ _ _ [some (.ref 0), some (.int v1), some (.int v2), some (.int (v3 + 1)), some (.int v4), some (.int v5), none] _
      refine G_goto 2 dX8_findBeater_119 (by decide) ?_
      refine GG.sb (lv2 := [some (.ref 0), some (.int v1), some (.int v2), some (.int (v3 + 1)), none, none, none]) ?_ (lvS_v rfl (lvS_v rfl (lvS_v rfl (lvS_v rfl (lvS_n (lvS_n (lvS_n (lvS_e))))))))
      exact hk2 hf
    · replace hf := ob_f h1 hf
      refine G_aload_n dX8_findBeater_40 rfl rfl ?_
      refine G_iload_n dX8_findBeater_41 rfl rfl ?_
      refine G_iload dX8_findBeater_42 rfl ?_
      obtain ⟨r2, hc3, hf⟩ := ob hf
      refine G_callV (μ2 := mu_X8_worthOf) (As := [.int v3, .int v5]) (w2 := (w_X8_findBeater c_askers c_places c_full c_cost c_found c_least c_seats c_told c_weight c_wish u_above u_below u_firsts u_freed u_whole)) (wc := (w_X8_worthOf c_wish c_askers c_places u_above u_below c_full u_firsts u_freed u_whole)) (wc2 := (w_X8_worthOf c_wish c_askers c_places u_above u_below c_full u_firsts u_freed u_whole)) (rest := []) (rv := [.int r2]) [0, 7] [4, 5, 6, 1000, 2, 1, 3, 1001, 1002, 1003, 1004, 1005, 1006, 1007, 1008, 1009, 1010, 1011, 1012, 1013] [1, 2, 3, 4, 5, 6] [6, 0, 1, 2, 3, 4, 5, 7] (c_X8_worthOf hc3) cw_X8_worthOf m_X8_111 dX8_findBeater_44 rfl ⟨leb rfl, leb rfl⟩ ⟨rfl, rfl⟩ rfl ⟨_, rfl, rfl⟩ (Fit.mk rfl rfl rfl) rfl (leb rfl) (ROsub.nil rfl rfl) rfl ?_
      change GG _ _ _ _ _ _ _ _ _ (w_X8_findBeater c_askers c_places c_full c_cost c_found c_least c_seats c_told c_weight c_wish u_above u_below u_firsts u_freed u_whole) [some (.ref 0), some (.int v1), some (.int v2), some (.int v3), some (.int v4), some (.int v5), none] [.int r2]
      refine G_istore dX8_findBeater_47 (ltb rfl) ?_
      change GG _ _ _ _ _ _ _ _ _ _ [some (.ref 0), some (.int v1), some (.int v2), some (.int v3), some (.int v4), some (.int v5), some (.int r2)] _
      refine G_aload_n dX8_findBeater_49 rfl rfl ?_
      refine G_get (v := .ref 1) F_X8_30 dX8_findBeater_50 rfl rfl ?_
      refine G_bipush 7 dX8_findBeater_53 (by decide) ?_
      refine G_iload_n dX8_findBeater_55 rfl rfl ?_
      refine G_imul dX8_findBeater_56 ?_
      refine G_iload dX8_findBeater_57 rfl ?_
      refine G_iadd dX8_findBeater_59 ?_
      refine G_iload dX8_findBeater_60 rfl ?_
      refine G_bipush 7 dX8_findBeater_62 (by decide) ?_
      refine G_icmp_gt 78 dX8_findBeater_64 (by decide) (fun h4 => ?_) (fun h4 => ?_)
      · replace hf := ob_t h4 hf
        refine GG.sb (lv2 := [some (.ref 0), some (.int v1), some (.int v2), some (.int v3), some (.int v4), some (.int v5), none]) ?_ (lvS_v rfl (lvS_v rfl (lvS_v rfl (lvS_v rfl (lvS_v rfl (lvS_v rfl (lvS_n (lvS_e))))))))
        exact g_X8_findBeater_78 ih hf
      · replace hf := ob_f h4 hf
        refine G_iload_n dX8_findBeater_67 rfl rfl ?_
        refine G_if_eq 84 dX8_findBeater_68 (by decide) (fun h5 => ?_) (fun h5 => ?_)
        · replace hf := ob_t h5 hf
          exact g_X8_findBeater_84 ih hf
        · replace hf := ob_f h5 hf
          refine G_iload dX8_findBeater_71 rfl ?_
          refine G_iload dX8_findBeater_73 rfl ?_
          refine G_icmp_le 84 dX8_findBeater_75 (by decide) (fun h6 => ?_) (fun h6 => ?_)
          · replace hf := ob_t h6 hf
            exact g_X8_findBeater_84 ih hf
          · replace hf := ob_f h6 hf
            refine GG.sb (lv2 := [some (.ref 0), some (.int v1), some (.int v2), some (.int v3), some (.int v4), some (.int v5), none]) ?_ (lvS_v rfl (lvS_v rfl (lvS_v rfl (lvS_v rfl (lvS_v rfl (lvS_v rfl (lvS_n (lvS_e))))))))
            exact g_X8_findBeater_78 ih hf
def f_X8_findBeater_2 (N : Nat) (c_askers : Int32) (c_places : Int32) (c_seats : Nat → Int32) (c_told : Nat → Int32) (c_wish : Nat → Int32) : Nat → Int32 → (Nat → Int64) → (Nat → Int32) → (Nat → Int64) → (Nat → Int32) → Int32 → Int32 → Int32 → Option (Int32 × Int32 × (Nat → Int64) × (Nat → Int32) × (Nat → Int64) × (Nat → Int32))
  | 0, _, _, _, _, _, _, _, _ => none
  | n + 1, c_full, c_cost, c_found, c_least, c_weight, v1, v2, v3 =>
    (if c_askers ≤ v3 then
      (f_X8_findLeast N c_askers c_places c_cost c_seats c_wish c_full c_found c_least c_weight).bind fun (r2, o3, o4, o5, o6) =>
      some ((-r2).toInt32, o3, c_cost, o4, o5, o6)
    else
      (rdI 32 c_told ((8 * v1) + v3)).bind fun t8 =>
      (f_X8_worthOf N c_wish v3 t8).bind fun r9 =>
      f_X8_findBeater_31 N c_askers c_places c_seats c_told c_wish (f_X8_findBeater_2 N c_askers c_places c_seats c_told c_wish n) N c_full c_cost c_found c_least c_weight v1 v2 v3 r9 0)
set_option maxHeartbeats 4000000 in
set_option maxRecDepth 100000 in
theorem g_X8_findBeater_2 {κ : KC} {ω : KW} {A : Nat → Prop} {ad : Nat → Nat} {u_above : Int64} {u_below : Int64} {u_firsts : Int32} {u_freed : Int32} {u_whole : Int64} {N : Nat} {c_askers : Int32} {c_places : Int32} {c_seats : Nat → Int32} {c_told : Nat → Int32} {c_wish : Nat → Int32}  {res : Int32 × Int32 × (Nat → Int64) × (Nat → Int32) × (Nat → Int64) × (Nat → Int32)} : ∀ (n : Nat) {c_full : Int32} {c_cost : Nat → Int64} {c_found : Nat → Int32} {c_least : Nat → Int64} {c_weight : Nat → Int32} {v1 : Int32} {v2 : Int32} {v3 : Int32}, f_X8_findBeater_2 N c_askers c_places c_seats c_told c_wish n c_full c_cost c_found c_least c_weight v1 v2 v3 = some res → GG mu_X8_findBeater κ ω A (QR κ ω A ad (some (.int res.1)) (w_X8_findBeater c_askers c_places res.2.1 res.2.2.1 res.2.2.2.1 res.2.2.2.2.1 c_seats c_told res.2.2.2.2.2 c_wish u_above u_below u_firsts u_freed u_whole)) ad 0 0 2 (w_X8_findBeater c_askers c_places c_full c_cost c_found c_least c_seats c_told c_weight c_wish u_above u_below u_firsts u_freed u_whole) [some (.ref 0), some (.int v1), some (.int v2), some (.int v3), none, none, none] [] := by
  intro n
  induction n with
  | zero => intro c_full c_cost c_found c_least c_weight v1 v2 v3 hf; exact ob_0 hf
  | succ n ih =>
    intro c_full c_cost c_found c_least c_weight v1 v2 v3 hf
    refine G_iload_n dX8_findBeater_2 rfl rfl ?_
    refine G_aload_n dX8_findBeater_3 rfl rfl ?_
    refine G_get (v := .int c_askers) F_X8_89 dX8_findBeater_4 rfl rfl ?_
    refine G_icmp_ge 122 dX8_findBeater_7 (by decide) (fun h1 => ?_) (fun h1 => ?_)
    · replace hf := ob_t h1 hf
      refine G_aload_n dX8_findBeater_122 rfl rfl ?_
      obtain ⟨⟨r2, o3, o4, o5, o6⟩, hc7, hf⟩ := ob hf
      refine G_callV (μ2 := mu_X8_findLeast) (As := []) (w2 := (w_X8_findBeater c_askers c_places o3 c_cost o4 o5 c_seats c_told o6 c_wish u_above u_below u_firsts u_freed u_whole)) (wc := (w_X8_findLeast c_askers c_places c_full c_cost c_found c_least c_seats c_weight c_wish u_above u_below u_firsts u_freed u_whole)) (wc2 := (w_X8_findLeast c_askers c_places o3 c_cost o4 o5 c_seats o6 c_wish u_above u_below u_firsts u_freed u_whole)) (rest := []) (rv := [.long r2]) [0, 1, 2, 3, 4, 6, 7] [5, 1000, 1001, 1002, 1003, 1004, 1005, 1006, 1007, 1008, 1009, 1010, 1011, 1012, 1013] [5] [1, 2, 3, 4, 5, 0, 6, 7] (c_X8_findLeast hc7) cw_X8_findLeast m_X8_144 dX8_findBeater_123 rfl ⟨leb rfl, leb rfl⟩ ⟨rfl, rfl⟩ rfl ⟨_, rfl, rfl⟩ (Fit.mk rfl rfl rfl) rfl (leb rfl) (ROsub.nil rfl rfl) rfl ?_
      change GG _ _ _ _ _ _ _ _ _ (w_X8_findBeater c_askers c_places o3 c_cost o4 o5 c_seats c_told o6 c_wish u_above u_below u_firsts u_freed u_whole) [some (.ref 0), some (.int v1), some (.int v2), some (.int v3), none, none, none] [.long r2]
      refine G_lneg dX8_findBeater_126 ?_
      refine G_l2i dX8_findBeater_127 ?_
      obtain rfl := os hf
      exact G_ireturn dX8_findBeater_128 rfl
    · replace hf := ob_f h1 hf
      refine G_aload_n dX8_findBeater_10 rfl rfl ?_
      refine G_iload_n dX8_findBeater_11 rfl rfl ?_
      refine G_aload_n dX8_findBeater_12 rfl rfl ?_
      refine G_get (v := .ref 5) F_X8_16 dX8_findBeater_13 rfl rfl ?_
      refine G_bipush 8 dX8_findBeater_16 (by decide) ?_
      refine G_iload_n dX8_findBeater_18 rfl rfl ?_
      refine G_imul dX8_findBeater_19 ?_
      refine G_iload_n dX8_findBeater_20 rfl rfl ?_
      refine G_iadd dX8_findBeater_21 ?_
      obtain ⟨t8, ht8, hf⟩ := ob hf
      refine G_iald dX8_findBeater_22 rfl ht8 ?_
      obtain ⟨r9, hc10, hf⟩ := ob hf
      refine G_callV (μ2 := mu_X8_worthOf) (As := [.int v3, .int t8]) (w2 := (w_X8_findBeater c_askers c_places c_full c_cost c_found c_least c_seats c_told c_weight c_wish u_above u_below u_firsts u_freed u_whole)) (wc := (w_X8_worthOf c_wish c_askers c_places u_above u_below c_full u_firsts u_freed u_whole)) (wc2 := (w_X8_worthOf c_wish c_askers c_places u_above u_below c_full u_firsts u_freed u_whole)) (rest := []) (rv := [.int r9]) [0, 7] [4, 5, 6, 1000, 2, 1, 3, 1001, 1002, 1003, 1004, 1005, 1006, 1007, 1008, 1009, 1010, 1011, 1012, 1013] [1, 2, 3, 4, 5, 6] [6, 0, 1, 2, 3, 4, 5, 7] (c_X8_worthOf hc10) cw_X8_worthOf m_X8_111 dX8_findBeater_23 rfl ⟨leb rfl, leb rfl⟩ ⟨rfl, rfl⟩ rfl ⟨_, rfl, rfl⟩ (Fit.mk rfl rfl rfl) rfl (leb rfl) (ROsub.nil rfl rfl) rfl ?_
      change GG _ _ _ _ _ _ _ _ _ (w_X8_findBeater c_askers c_places c_full c_cost c_found c_least c_seats c_told c_weight c_wish u_above u_below u_firsts u_freed u_whole) [some (.ref 0), some (.int v1), some (.int v2), some (.int v3), none, none, none] [.int r9]
      refine G_istore dX8_findBeater_26 (ltb rfl) ?_
      change GG _ _ _ _ _ _ _ _ _ _ [some (.ref 0), some (.int v1), some (.int v2), some (.int v3), some (.int r9), none, none] _
      refine G_iconst 0 dX8_findBeater_28 (by decide) ?_
      refine G_istore dX8_findBeater_29 (ltb rfl) ?_
      change GG _ _ _ _ _ _ _ _ _ _ [some (.ref 0), some (.int v1), some (.int v2), some (.int v3), some (.int r9), some (.int 0), none] _
      exact g_X8_findBeater_31 ih N hf
def f_X8_findBeater (N : Nat) (c_askers : Int32) (c_places : Int32) (c_seats : Nat → Int32) (c_told : Nat → Int32) (c_wish : Nat → Int32) (c_full : Int32) (c_cost : Nat → Int64) (c_found : Nat → Int32) (c_least : Nat → Int64) (c_weight : Nat → Int32) (a1 : Int32) (a2 : Int32) : Option (Int32 × Int32 × (Nat → Int64) × (Nat → Int32) × (Nat → Int64) × (Nat → Int32)) :=
  f_X8_findBeater_2 N c_askers c_places c_seats c_told c_wish N c_full c_cost c_found c_least c_weight a1 a2 0
set_option maxHeartbeats 4000000 in
set_option maxRecDepth 100000 in
theorem c_X8_findBeater {N : Nat} {c_askers : Int32} {c_places : Int32} {c_seats : Nat → Int32} {c_told : Nat → Int32} {c_wish : Nat → Int32} {c_full : Int32} {c_cost : Nat → Int64} {c_found : Nat → Int32} {c_least : Nat → Int64} {c_weight : Nat → Int32} {u_above : Int64} {u_below : Int64} {u_firsts : Int32} {u_freed : Int32} {u_whole : Int64} {a1 : Int32} {a2 : Int32} {res : Int32 × Int32 × (Nat → Int64) × (Nat → Int32) × (Nat → Int64) × (Nat → Int32)} (hf : f_X8_findBeater N c_askers c_places c_seats c_told c_wish c_full c_cost c_found c_least c_weight a1 a2 = some res) : Con mu_X8_findBeater [.ref 0, .int a1, .int a2] (w_X8_findBeater c_askers c_places c_full c_cost c_found c_least c_seats c_told c_weight c_wish u_above u_below u_firsts u_freed u_whole) (some (.int res.1)) (w_X8_findBeater c_askers c_places res.2.1 res.2.2.1 res.2.2.2.1 res.2.2.2.2.1 c_seats c_told res.2.2.2.2.2 c_wish u_above u_below u_firsts u_freed u_whole) := by
  refine Con.mk (show plainName RX8 = true by decide +kernel) (leb rfl) (fun κ ω A ad => ?_)
  change GG mu_X8_findBeater κ ω A (QR κ ω A ad (some (.int res.1)) (w_X8_findBeater c_askers c_places res.2.1 res.2.2.1 res.2.2.2.1 res.2.2.2.2.1 c_seats c_told res.2.2.2.2.2 c_wish u_above u_below u_firsts u_freed u_whole)) ad 0 0 0 (w_X8_findBeater c_askers c_places c_full c_cost c_found c_least c_seats c_told c_weight c_wish u_above u_below u_firsts u_freed u_whole) [some (.ref 0), some (.int a1), some (.int a2), none, none, none, none] []
  refine G_iconst 0 dX8_findBeater_0 (by decide) ?_
  refine G_istore_n dX8_findBeater_1 rfl (ltb rfl) ?_
  change GG _ _ _ _ _ _ _ _ _ _ [some (.ref 0), some (.int a1), some (.int a2), some (.int 0), none, none, none] _
  exact g_X8_findBeater_2 N hf
set_option maxRecDepth 20000 in
theorem dX8_pointsAt_0 : decode cX8_pointsAt 0 = .ok (.aload_n 0, 1) := by decide +kernel
set_option maxRecDepth 20000 in
theorem dX8_pointsAt_1 : decode cX8_pointsAt 1 = .ok (.getfield 16, 3) := by decide +kernel
set_option maxRecDepth 20000 in
theorem dX8_pointsAt_4 : decode cX8_pointsAt 4 = .ok (.bipush 8, 2) := by decide +kernel
set_option maxRecDepth 20000 in
theorem dX8_pointsAt_6 : decode cX8_pointsAt 6 = .ok (.iload_n 1, 1) := by decide +kernel
set_option maxRecDepth 20000 in
theorem dX8_pointsAt_7 : decode cX8_pointsAt 7 = .ok (.imul, 1) := by decide +kernel
set_option maxRecDepth 20000 in
theorem dX8_pointsAt_8 : decode cX8_pointsAt 8 = .ok (.iload_n 2, 1) := by decide +kernel
set_option maxRecDepth 20000 in
theorem dX8_pointsAt_9 : decode cX8_pointsAt 9 = .ok (.iadd, 1) := by decide +kernel
set_option maxRecDepth 20000 in
theorem dX8_pointsAt_10 : decode cX8_pointsAt 10 = .ok (.iaload, 1) := by decide +kernel
set_option maxRecDepth 20000 in
theorem dX8_pointsAt_11 : decode cX8_pointsAt 11 = .ok (.istore 4, 2) := by decide +kernel
set_option maxRecDepth 20000 in
theorem dX8_pointsAt_13 : decode cX8_pointsAt 13 = .ok (.iload 4, 2) := by decide +kernel
set_option maxRecDepth 20000 in
theorem dX8_pointsAt_15 : decode cX8_pointsAt 15 = .ok (.istore 5, 2) := by decide +kernel
set_option maxRecDepth 20000 in
theorem dX8_pointsAt_17 : decode cX8_pointsAt 17 = .ok (.iconst 0, 1) := by decide +kernel
set_option maxRecDepth 20000 in
theorem dX8_pointsAt_18 : decode cX8_pointsAt 18 = .ok (.istore 6, 2) := by decide +kernel
set_option maxRecDepth 20000 in
theorem dX8_pointsAt_20 : decode cX8_pointsAt 20 = .ok (.iload 6, 2) := by decide +kernel
set_option maxRecDepth 20000 in
theorem dX8_pointsAt_22 : decode cX8_pointsAt 22 = .ok (.aload_n 0, 1) := by decide +kernel
set_option maxRecDepth 20000 in
theorem dX8_pointsAt_23 : decode cX8_pointsAt 23 = .ok (.getfield 89, 3) := by decide +kernel
set_option maxRecDepth 20000 in
theorem dX8_pointsAt_26 : decode cX8_pointsAt 26 = .ok (.if_icmp .ge 88, 3) := by decide +kernel
set_option maxRecDepth 20000 in
theorem dX8_pointsAt_29 : decode cX8_pointsAt 29 = .ok (.aload_n 0, 1) := by decide +kernel
set_option maxRecDepth 20000 in
theorem dX8_pointsAt_30 : decode cX8_pointsAt 30 = .ok (.getfield 16, 3) := by decide +kernel
set_option maxRecDepth 20000 in
theorem dX8_pointsAt_33 : decode cX8_pointsAt 33 = .ok (.bipush 8, 2) := by decide +kernel
set_option maxRecDepth 20000 in
theorem dX8_pointsAt_35 : decode cX8_pointsAt 35 = .ok (.iload_n 1, 1) := by decide +kernel
set_option maxRecDepth 20000 in
theorem dX8_pointsAt_36 : decode cX8_pointsAt 36 = .ok (.imul, 1) := by decide +kernel
set_option maxRecDepth 20000 in
theorem dX8_pointsAt_37 : decode cX8_pointsAt 37 = .ok (.iload 6, 2) := by decide +kernel
set_option maxRecDepth 20000 in
theorem dX8_pointsAt_39 : decode cX8_pointsAt 39 = .ok (.iadd, 1) := by decide +kernel
set_option maxRecDepth 20000 in
theorem dX8_pointsAt_40 : decode cX8_pointsAt 40 = .ok (.iaload, 1) := by decide +kernel
set_option maxRecDepth 20000 in
theorem dX8_pointsAt_41 : decode cX8_pointsAt 41 = .ok (.istore 7, 2) := by decide +kernel
set_option maxRecDepth 20000 in
theorem dX8_pointsAt_43 : decode cX8_pointsAt 43 = .ok (.iload_n 3, 1) := by decide +kernel
set_option maxRecDepth 20000 in
theorem dX8_pointsAt_44 : decode cX8_pointsAt 44 = .ok (.iload 6, 2) := by decide +kernel
set_option maxRecDepth 20000 in
theorem dX8_pointsAt_46 : decode cX8_pointsAt 46 = .ok (.ishr, 1) := by decide +kernel
set_option maxRecDepth 20000 in
theorem dX8_pointsAt_47 : decode cX8_pointsAt 47 = .ok (.iconst 1, 1) := by decide +kernel
set_option maxRecDepth 20000 in
theorem dX8_pointsAt_48 : decode cX8_pointsAt 48 = .ok (.iand, 1) := by decide +kernel
set_option maxRecDepth 20000 in
theorem dX8_pointsAt_49 : decode cX8_pointsAt 49 = .ok (.iconst 1, 1) := by decide +kernel
set_option maxRecDepth 20000 in
theorem dX8_pointsAt_50 : decode cX8_pointsAt 50 = .ok (.if_icmp .ne 58, 3) := by decide +kernel
set_option maxRecDepth 20000 in
theorem dX8_pointsAt_53 : decode cX8_pointsAt 53 = .ok (.aload_n 0, 1) := by decide +kernel
set_option maxRecDepth 20000 in
theorem dX8_pointsAt_54 : decode cX8_pointsAt 54 = .ok (.iload_n 2, 1) := by decide +kernel
set_option maxRecDepth 20000 in
theorem dX8_pointsAt_55 : decode cX8_pointsAt 55 = .ok (.iload 7, 2) := by decide +kernel
set_option maxRecDepth 20000 in
theorem dX8_pointsAt_57 : decode cX8_pointsAt 57 = .ok (.invokevirtual 111, 3) := by decide +kernel
set_option maxRecDepth 20000 in
theorem dX8_pointsAt_60 : decode cX8_pointsAt 60 = .ok (.istore 8, 2) := by decide +kernel
set_option maxRecDepth 20000 in
theorem dX8_pointsAt_62 : decode cX8_pointsAt 62 = .ok (.aload_n 0, 1) := by decide +kernel
set_option maxRecDepth 20000 in
theorem dX8_pointsAt_63 : decode cX8_pointsAt 63 = .ok (.iload_n 2, 1) := by decide +kernel
set_option maxRecDepth 20000 in
theorem dX8_pointsAt_64 : decode cX8_pointsAt 64 = .ok (.iload 5, 2) := by decide +kernel
set_option maxRecDepth 20000 in
theorem dX8_pointsAt_66 : decode cX8_pointsAt 66 = .ok (.invokevirtual 111, 3) := by decide +kernel
set_option maxRecDepth 20000 in
theorem dX8_pointsAt_69 : decode cX8_pointsAt 69 = .ok (.istore 9, 2) := by decide +kernel
set_option maxRecDepth 20000 in
theorem dX8_pointsAt_71 : decode cX8_pointsAt 71 = .ok (.iload 8, 2) := by decide +kernel
set_option maxRecDepth 20000 in
theorem dX8_pointsAt_73 : decode cX8_pointsAt 73 = .ok (.iload 9, 2) := by decide +kernel
set_option maxRecDepth 20000 in
theorem dX8_pointsAt_75 : decode cX8_pointsAt 75 = .ok (.if_icmp .lt 24, 3) := by decide +kernel
set_option maxRecDepth 20000 in
theorem dX8_pointsAt_78 : decode cX8_pointsAt 78 = .ok (.iload 8, 2) := by decide +kernel
set_option maxRecDepth 20000 in
theorem dX8_pointsAt_80 : decode cX8_pointsAt 80 = .ok (.iload 9, 2) := by decide +kernel
set_option maxRecDepth 20000 in
theorem dX8_pointsAt_82 : decode cX8_pointsAt 82 = .ok (.if_icmp .ne 22, 3) := by decide +kernel
set_option maxRecDepth 20000 in
theorem dX8_pointsAt_85 : decode cX8_pointsAt 85 = .ok (.iload 5, 2) := by decide +kernel
set_option maxRecDepth 20000 in
theorem dX8_pointsAt_87 : decode cX8_pointsAt 87 = .ok (.iload 4, 2) := by decide +kernel
set_option maxRecDepth 20000 in
theorem dX8_pointsAt_89 : decode cX8_pointsAt 89 = .ok (.if_icmp .eq 15, 3) := by decide +kernel
set_option maxRecDepth 20000 in
theorem dX8_pointsAt_92 : decode cX8_pointsAt 92 = .ok (.iload 7, 2) := by decide +kernel
set_option maxRecDepth 20000 in
theorem dX8_pointsAt_94 : decode cX8_pointsAt 94 = .ok (.iload 5, 2) := by decide +kernel
set_option maxRecDepth 20000 in
theorem dX8_pointsAt_96 : decode cX8_pointsAt 96 = .ok (.if_icmp .ge 8, 3) := by decide +kernel
set_option maxRecDepth 20000 in
theorem dX8_pointsAt_99 : decode cX8_pointsAt 99 = .ok (.iload 7, 2) := by decide +kernel
set_option maxRecDepth 20000 in
theorem dX8_pointsAt_101 : decode cX8_pointsAt 101 = .ok (.goto 5, 3) := by decide +kernel
set_option maxRecDepth 20000 in
theorem dX8_pointsAt_104 : decode cX8_pointsAt 104 = .ok (.iload 5, 2) := by decide +kernel
set_option maxRecDepth 20000 in
theorem dX8_pointsAt_106 : decode cX8_pointsAt 106 = .ok (.istore 5, 2) := by decide +kernel
set_option maxRecDepth 20000 in
theorem dX8_pointsAt_108 : decode cX8_pointsAt 108 = .ok (.iinc 6 1, 3) := by decide +kernel
set_option maxRecDepth 20000 in
theorem dX8_pointsAt_111 : decode cX8_pointsAt 111 = .ok (.goto (-91), 3) := by decide +kernel
set_option maxRecDepth 20000 in
theorem dX8_pointsAt_114 : decode cX8_pointsAt 114 = .ok (.iload 5, 2) := by decide +kernel
set_option maxRecDepth 20000 in
theorem dX8_pointsAt_116 : decode cX8_pointsAt 116 = .ok (.iload 4, 2) := by decide +kernel
set_option maxRecDepth 20000 in
theorem dX8_pointsAt_118 : decode cX8_pointsAt 118 = .ok (.if_icmp .ne 5, 3) := by decide +kernel
set_option maxRecDepth 20000 in
theorem dX8_pointsAt_121 : decode cX8_pointsAt 121 = .ok (.iload_n 2, 1) := by decide +kernel
set_option maxRecDepth 20000 in
theorem dX8_pointsAt_122 : decode cX8_pointsAt 122 = .ok (.ireturn, 1) := by decide +kernel
set_option maxRecDepth 20000 in
theorem dX8_pointsAt_123 : decode cX8_pointsAt 123 = .ok (.iconst 0, 1) := by decide +kernel
set_option maxRecDepth 20000 in
theorem dX8_pointsAt_124 : decode cX8_pointsAt 124 = .ok (.istore 6, 2) := by decide +kernel
set_option maxRecDepth 20000 in
theorem dX8_pointsAt_126 : decode cX8_pointsAt 126 = .ok (.iload_n 3, 1) := by decide +kernel
set_option maxRecDepth 20000 in
theorem dX8_pointsAt_127 : decode cX8_pointsAt 127 = .ok (.iload 6, 2) := by decide +kernel
set_option maxRecDepth 20000 in
theorem dX8_pointsAt_129 : decode cX8_pointsAt 129 = .ok (.ishr, 1) := by decide +kernel
set_option maxRecDepth 20000 in
theorem dX8_pointsAt_130 : decode cX8_pointsAt 130 = .ok (.iconst 1, 1) := by decide +kernel
set_option maxRecDepth 20000 in
theorem dX8_pointsAt_131 : decode cX8_pointsAt 131 = .ok (.iand, 1) := by decide +kernel
set_option maxRecDepth 20000 in
theorem dX8_pointsAt_132 : decode cX8_pointsAt 132 = .ok (.ifCond .eq 20, 3) := by decide +kernel
set_option maxRecDepth 20000 in
theorem dX8_pointsAt_135 : decode cX8_pointsAt 135 = .ok (.aload_n 0, 1) := by decide +kernel
set_option maxRecDepth 20000 in
theorem dX8_pointsAt_136 : decode cX8_pointsAt 136 = .ok (.getfield 16, 3) := by decide +kernel
set_option maxRecDepth 20000 in
theorem dX8_pointsAt_139 : decode cX8_pointsAt 139 = .ok (.bipush 8, 2) := by decide +kernel
set_option maxRecDepth 20000 in
theorem dX8_pointsAt_141 : decode cX8_pointsAt 141 = .ok (.iload_n 1, 1) := by decide +kernel
set_option maxRecDepth 20000 in
theorem dX8_pointsAt_142 : decode cX8_pointsAt 142 = .ok (.imul, 1) := by decide +kernel
set_option maxRecDepth 20000 in
theorem dX8_pointsAt_143 : decode cX8_pointsAt 143 = .ok (.iload 6, 2) := by decide +kernel
set_option maxRecDepth 20000 in
theorem dX8_pointsAt_145 : decode cX8_pointsAt 145 = .ok (.iadd, 1) := by decide +kernel
set_option maxRecDepth 20000 in
theorem dX8_pointsAt_146 : decode cX8_pointsAt 146 = .ok (.iaload, 1) := by decide +kernel
set_option maxRecDepth 20000 in
theorem dX8_pointsAt_147 : decode cX8_pointsAt 147 = .ok (.iload 5, 2) := by decide +kernel
set_option maxRecDepth 20000 in
theorem dX8_pointsAt_149 : decode cX8_pointsAt 149 = .ok (.if_icmp .eq 9, 3) := by decide +kernel
set_option maxRecDepth 20000 in
theorem dX8_pointsAt_152 : decode cX8_pointsAt 152 = .ok (.iinc 6 1, 3) := by decide +kernel
set_option maxRecDepth 20000 in
theorem dX8_pointsAt_155 : decode cX8_pointsAt 155 = .ok (.goto (-29), 3) := by decide +kernel
set_option maxRecDepth 20000 in
theorem dX8_pointsAt_158 : decode cX8_pointsAt 158 = .ok (.iload 6, 2) := by decide +kernel
set_option maxRecDepth 20000 in
theorem dX8_pointsAt_160 : decode cX8_pointsAt 160 = .ok (.ireturn, 1) := by decide +kernel
def f_X8_pointsAt_126 (N : Nat) (c_askers : Int32) (c_told : Nat → Int32) (c_wish : Nat → Int32) : Nat → Int32 → Int32 → Int32 → Int32 → Option (Int32)
  | 0, _, _, _, _ => none
  | n + 1, v1, v3, v5, v6 =>
    (if ((v3 >>> (v6 &&& 31)) &&& (1 : Int32)) = 0 then
      f_X8_pointsAt_126 N c_askers c_told c_wish n v1 v3 v5 (v6 + 1)
    else
      (rdI 32 c_told ((8 * v1) + v6)).bind fun t2 =>
      (if t2 = v5 then
        some v6
      else
        f_X8_pointsAt_126 N c_askers c_told c_wish n v1 v3 v5 (v6 + 1)))
set_option maxHeartbeats 4000000 in
set_option maxRecDepth 100000 in
theorem g_X8_pointsAt_126 {κ : KC} {ω : KW} {A : Nat → Prop} {ad : Nat → Nat} {u_places : Int32} {u_above : Int64} {u_below : Int64} {u_full : Int32} {u_firsts : Int32} {u_freed : Int32} {u_whole : Int64} {N : Nat} {c_askers : Int32} {c_told : Nat → Int32} {c_wish : Nat → Int32}  {res : Int32} : ∀ (n : Nat) {v1 : Int32} {v3 : Int32} {v5 : Int32} {v6 : Int32}, f_X8_pointsAt_126 N c_askers c_told c_wish n v1 v3 v5 v6 = some res → GG mu_X8_pointsAt κ ω A (QR κ ω A ad (some (.int res)) (w_X8_pointsAt c_askers c_told c_wish u_places u_above u_below u_full u_firsts u_freed u_whole)) ad 0 0 126 (w_X8_pointsAt c_askers c_told c_wish u_places u_above u_below u_full u_firsts u_freed u_whole) [some (.ref 0), some (.int v1), none, some (.int v3), none, some (.int v5), some (.int v6), none, none, none] [] := by
  intro n
  induction n with
  | zero => intro v1 v3 v5 v6 hf; exact ob_0 hf
  | succ n ih =>
    intro v1 v3 v5 v6 hf
    refine G_iload_n dX8_pointsAt_126 rfl rfl ?_
    refine G_iload dX8_pointsAt_127 rfl ?_
    refine G_ishr dX8_pointsAt_129 ?_
    refine G_iconst 1 dX8_pointsAt_130 (by decide) ?_
    refine G_iand dX8_pointsAt_131 ?_
    refine G_if_eq 152 dX8_pointsAt_132 (by decide) (fun h1 => ?_) (fun h1 => ?_)
    · replace hf := ob_t h1 hf
      refine G_iinc 1 dX8_pointsAt_152 (by decide) rfl (ltb rfl) ?_
      change GG _ _ _ _ _ _ _ _ _ _ [some (.ref 0), some (.int v1), none, some (.int v3), none, some (.int v5), some (.int (v6 + 1)), none, none, none] _
      refine G_goto 126 dX8_pointsAt_155 (by decide) ?_
      exact ih hf
    · replace hf := ob_f h1 hf
      refine G_aload_n dX8_pointsAt_135 rfl rfl ?_
      refine G_get (v := .ref 1) F_X8_16 dX8_pointsAt_136 rfl rfl ?_
      refine G_bipush 8 dX8_pointsAt_139 (by decide) ?_
      refine G_iload_n dX8_pointsAt_141 rfl rfl ?_
      refine G_imul dX8_pointsAt_142 ?_
      refine G_iload dX8_pointsAt_143 rfl ?_
      refine G_iadd dX8_pointsAt_145 ?_
      obtain ⟨t2, ht2, hf⟩ := ob hf
      refine G_iald dX8_pointsAt_146 rfl ht2 ?_
      refine G_iload dX8_pointsAt_147 rfl ?_
      refine G_icmp_eq 158 dX8_pointsAt_149 (by decide) (fun h3 => ?_) (fun h3 => ?_)
      · replace hf := ob_t h3 hf
        refine G_iload dX8_pointsAt_158 rfl ?_
        obtain rfl := os hf
        exact G_ireturn dX8_pointsAt_160 rfl
      · replace hf := ob_f h3 hf
        refine G_iinc 1 dX8_pointsAt_152 (by decide) rfl (ltb rfl) ?_
        change GG _ _ _ _ _ _ _ _ _ _ [some (.ref 0), some (.int v1), none, some (.int v3), none, some (.int v5), some (.int (v6 + 1)), none, none, none] _
        refine G_goto 126 dX8_pointsAt_155 (by decide) ?_
        exact ih hf
def f_X8_pointsAt_20 (N : Nat) (c_askers : Int32) (c_told : Nat → Int32) (c_wish : Nat → Int32) : Nat → Int32 → Int32 → Int32 → Int32 → Int32 → Int32 → Option (Int32)
  | 0, _, _, _, _, _, _ => none
  | n + 1, v1, v2, v3, v4, v5, v6 =>
    (if c_askers ≤ v6 then
      (if v5 = v4 then
        some v2
      else
        f_X8_pointsAt_126 N c_askers c_told c_wish N v1 v3 v5 0)
    else
      (rdI 32 c_told ((8 * v1) + v6)).bind fun t3 =>
      (if ((v3 >>> (v6 &&& 31)) &&& (1 : Int32)) = 1 then
        (f_X8_worthOf N c_wish v2 t3).bind fun r5 =>
        (f_X8_worthOf N c_wish v2 v5).bind fun r7 =>
        (if r5 < r7 then
          f_X8_pointsAt_20 N c_askers c_told c_wish n v1 v2 v3 v4 t3 (v6 + 1)
        else
          (if r5 = r7 then
            (if v5 = v4 then
              f_X8_pointsAt_20 N c_askers c_told c_wish n v1 v2 v3 v4 v5 (v6 + 1)
            else
              (if v5 ≤ t3 then
                f_X8_pointsAt_20 N c_askers c_told c_wish n v1 v2 v3 v4 v5 (v6 + 1)
              else
                f_X8_pointsAt_20 N c_askers c_told c_wish n v1 v2 v3 v4 t3 (v6 + 1)))
          else
            f_X8_pointsAt_20 N c_askers c_told c_wish n v1 v2 v3 v4 v5 (v6 + 1)))
      else
        f_X8_pointsAt_20 N c_askers c_told c_wish n v1 v2 v3 v4 v5 (v6 + 1)))
set_option maxHeartbeats 4000000 in
set_option maxRecDepth 100000 in
theorem g_X8_pointsAt_20 {κ : KC} {ω : KW} {A : Nat → Prop} {ad : Nat → Nat} {u_places : Int32} {u_above : Int64} {u_below : Int64} {u_full : Int32} {u_firsts : Int32} {u_freed : Int32} {u_whole : Int64} {N : Nat} {c_askers : Int32} {c_told : Nat → Int32} {c_wish : Nat → Int32}  {res : Int32} : ∀ (n : Nat) {v1 : Int32} {v2 : Int32} {v3 : Int32} {v4 : Int32} {v5 : Int32} {v6 : Int32}, f_X8_pointsAt_20 N c_askers c_told c_wish n v1 v2 v3 v4 v5 v6 = some res → GG mu_X8_pointsAt κ ω A (QR κ ω A ad (some (.int res)) (w_X8_pointsAt c_askers c_told c_wish u_places u_above u_below u_full u_firsts u_freed u_whole)) ad 0 0 20 (w_X8_pointsAt c_askers c_told c_wish u_places u_above u_below u_full u_firsts u_freed u_whole) [some (.ref 0), some (.int v1), some (.int v2), some (.int v3), some (.int v4), some (.int v5), some (.int v6), none, none, none] [] := by
  intro n
  induction n with
  | zero => intro v1 v2 v3 v4 v5 v6 hf; exact ob_0 hf
  | succ n ih =>
    intro v1 v2 v3 v4 v5 v6 hf
    refine G_iload dX8_pointsAt_20 rfl ?_
    refine G_aload_n dX8_pointsAt_22 rfl rfl ?_
    refine G_get (v := .int c_askers) F_X8_89 dX8_pointsAt_23 rfl rfl ?_
    refine G_icmp_ge 114 dX8_pointsAt_26 (by decide) (fun h1 => ?_) (fun h1 => ?_)
    · replace hf := ob_t h1 hf
      refine G_iload dX8_pointsAt_114 rfl ?_
      refine G_iload dX8_pointsAt_116 rfl ?_
      refine G_icmp_ne 123 dX8_pointsAt_118 (by decide) (fun h2 => ?_) (fun h2 => ?_)
      · replace hf := ob_f h2 hf
        refine G_iconst 0 dX8_pointsAt_123 (by decide) ?_
        refine G_istore dX8_pointsAt_124 (ltb rfl) ?_
        change GG _ _ _ _ _ _ _ _ _ _ [some (.ref 0), some (.int v1), some (.int v2), some (.int v3), some (.int v4), some (.int v5), some (.int 0), none, none, none] _
        refine GG.sb (lv2 := [some (.ref 0), some (.int v1), none, some (.int v3), none, some (.int v5), some (.int 0), none, none, none]) ?_ (lvS_v rfl (lvS_v rfl (lvS_n (lvS_v rfl (lvS_n (lvS_v rfl (lvS_v rfl (lvS_n (lvS_n (lvS_n (lvS_e)))))))))))
        exact g_X8_pointsAt_126 N hf
      · replace hf := ob_t h2 hf
        refine G_iload_n dX8_pointsAt_121 rfl rfl ?_
        obtain rfl := os hf
        exact G_ireturn dX8_pointsAt_122 rfl
    · replace hf := ob_f h1 hf
      refine G_aload_n dX8_pointsAt_29 rfl rfl ?_
      refine G_get (v := .ref 1) F_X8_16 dX8_pointsAt_30 rfl rfl ?_
      refine G_bipush 8 dX8_pointsAt_33 (by decide) ?_
      refine G_iload_n dX8_pointsAt_35 rfl rfl ?_
      refine G_imul dX8_pointsAt_36 ?_
      refine G_iload dX8_pointsAt_37 rfl ?_
      refine G_iadd dX8_pointsAt_39 ?_
      obtain ⟨t3, ht3, hf⟩ := ob hf
      refine G_iald dX8_pointsAt_40 rfl ht3 ?_
      refine G_istore dX8_pointsAt_41 (ltb rfl) ?_
      change GG _ _ _ _ _ _ _ _ _ _ [some (.ref 0), some (.int v1), some (.int v2), some (.int v3), some (.int v4), some (.int v5), some (.int v6), some (.int t3), none, none] _
      refine G_iload_n dX8_pointsAt_43 rfl rfl ?_
      refine G_iload dX8_pointsAt_44 rfl ?_
      refine G_ishr dX8_pointsAt_46 ?_
      refine G_iconst 1 dX8_pointsAt_47 (by decide) ?_
      refine G_iand dX8_pointsAt_48 ?_
      refine G_iconst 1 dX8_pointsAt_49 (by decide) ?_
      refine G_icmp_ne 108 dX8_pointsAt_50 (by decide) (fun h4 => ?_) (fun h4 => ?_)
      · replace hf := ob_f h4 hf
        refine G_iinc 1 dX8_pointsAt_108 (by decide) rfl (ltb rfl) ?_
        change GG _ _ _ _ _ _ _ _ _ _ [some (.ref 0), some (.int v1), some (.int v2), some (.int v3), some (.int v4), some (.int v5), some (.int (v6 + 1)), some (.int t3), none, none] _
        refine G_goto 20 dX8_pointsAt_111 (by decide) ?_
        refine GG.sb (lv2 := [some (.ref 0), some (.int v1), some (.int v2), some (.int v3), some (.int v4), some (.int v5), some (.int (v6 + 1)), none, none, none]) ?_ (lvS_v rfl (lvS_v rfl (lvS_v rfl (lvS_v rfl (lvS_v rfl (lvS_v rfl (lvS_v rfl (lvS_n (lvS_n (lvS_n (lvS_e)))))))))))
        exact ih hf
      · replace hf := ob_t h4 hf
        refine G_aload_n dX8_pointsAt_53 rfl rfl ?_
        refine G_iload_n dX8_pointsAt_54 rfl rfl ?_
        refine G_iload dX8_pointsAt_55 rfl ?_
        obtain ⟨r5, hc6, hf⟩ := ob hf
        refine G_callV (μ2 := mu_X8_worthOf) (As := [.int v2, .int t3]) (w2 := (w_X8_pointsAt c_askers c_told c_wish u_places u_above u_below u_full u_firsts u_freed u_whole)) (wc := (w_X8_worthOf c_wish c_askers u_places u_above u_below u_full u_firsts u_freed u_whole)) (wc2 := (w_X8_worthOf c_wish c_askers u_places u_above u_below u_full u_firsts u_freed u_whole)) (rest := []) (rv := [.int r5]) [0, 2] [1000, 1, 1001, 1002, 1003, 1004, 1005, 1006, 1007, 1008, 1009, 1010, 1011, 1012, 1013, 1014, 1015, 1016, 1017, 1018] [1] [1, 0, 2] (c_X8_worthOf hc6) cw_X8_worthOf m_X8_111 dX8_pointsAt_57 rfl ⟨leb rfl, leb rfl⟩ ⟨rfl, rfl⟩ rfl ⟨_, rfl, rfl⟩ (Fit.mk rfl rfl rfl) rfl (leb rfl) (ROsub.nil rfl rfl) rfl ?_
        change GG _ _ _ _ _ _ _ _ _ (w_X8_pointsAt c_askers c_told c_wish u_places u_above u_below u_full u_firsts u_freed u_whole) [some (.ref 0), some (.int v1), some (.int v2), some (.int v3), some (.int v4), some (.int v5), some (.int v6), some (.int t3), none, none] [.int r5]
        refine G_istore dX8_pointsAt_60 (ltb rfl) ?_
        change GG _ _ _ _ _ _ _ _ _ _ [some (.ref 0), some (.int v1), some (.int v2), some (.int v3), some (.int v4), some (.int v5), some (.int v6), some (.int t3), some (.int r5), none] _
        refine G_aload_n dX8_pointsAt_62 rfl rfl ?_
        refine G_iload_n dX8_pointsAt_63 rfl rfl ?_
        refine G_iload dX8_pointsAt_64 rfl ?_
        obtain ⟨r7, hc8, hf⟩ := ob hf
        refine G_callV (μ2 := mu_X8_worthOf) (As := [.int v2, .int v5]) (w2 := (w_X8_pointsAt c_askers c_told c_wish u_places u_above u_below u_full u_firsts u_freed u_whole)) (wc := (w_X8_worthOf c_wish c_askers u_places u_above u_below u_full u_firsts u_freed u_whole)) (wc2 := (w_X8_worthOf c_wish c_askers u_places u_above u_below u_full u_firsts u_freed u_whole)) (rest := []) (rv := [.int r7]) [0, 2] [1000, 1, 1001, 1002, 1003, 1004, 1005, 1006, 1007, 1008, 1009, 1010, 1011, 1012, 1013, 1014, 1015, 1016, 1017, 1018] [1] [1, 0, 2] (c_X8_worthOf hc8) cw_X8_worthOf m_X8_111 dX8_pointsAt_66 rfl ⟨leb rfl, leb rfl⟩ ⟨rfl, rfl⟩ rfl ⟨_, rfl, rfl⟩ (Fit.mk rfl rfl rfl) rfl (leb rfl) (ROsub.nil rfl rfl) rfl ?_
        change GG _ _ _ _ _ _ _ _ _ (w_X8_pointsAt c_askers c_told c_wish u_places u_above u_below u_full u_firsts u_freed u_whole) [some (.ref 0), some (.int v1), some (.int v2), some (.int v3), some (.int v4), some (.int v5), some (.int v6), some (.int t3), some (.int r5), none] [.int r7]
        refine G_istore dX8_pointsAt_69 (ltb rfl) ?_
        change GG _ _ _ _ _ _ _ _ _ _ [some (.ref 0), some (.int v1), some (.int v2), some (.int v3), some (.int v4), some (.int v5), some (.int v6), some (.int t3), some (.int r5), some (.int r7)] _
        refine G_iload dX8_pointsAt_71 rfl ?_
        refine G_iload dX8_pointsAt_73 rfl ?_
        refine G_icmp_lt 99 dX8_pointsAt_75 (by decide) (fun h9 => ?_) (fun h9 => ?_)
        · replace hf := ob_t h9 hf
          refine G_iload dX8_pointsAt_99 rfl ?_
          refine G_goto 106 dX8_pointsAt_101 (by decide) ?_
          refine G_istore dX8_pointsAt_106 (ltb rfl) ?_
          change GG _ _ _ _ _ _ _ _ _ _ [some (.ref 0), some (.int v1), some (.int v2), some (.int v3), some (.int v4), some (.int t3), some (.int v6), some (.int t3), some (.int r5), some (.int r7)] _
          refine G_iinc 1 dX8_pointsAt_108 (by decide) rfl (ltb rfl) ?_
          change GG _ _ _ _ _ _ _ _ _ _ [some (.ref 0), some (.int v1), some (.int v2), some (.int v3), some (.int v4), some (.int t3), some (.int (v6 + 1)), some (.int t3), some (.int r5), some (.int r7)] _
          refine G_goto 20 dX8_pointsAt_111 (by decide) ?_
          refine GG.sb (lv2 := [some (.ref 0), some (.int v1), some (.int v2), some (.int v3), some (.int v4), some (.int t3), some (.int (v6 + 1)), none, none, none]) ?_ (lvS_v rfl (lvS_v rfl (lvS_v rfl (lvS_v rfl (lvS_v rfl (lvS_v rfl (lvS_v rfl (lvS_n (lvS_n (lvS_n (lvS_e)))))))))))
          exact ih hf
        · replace hf := ob_f h9 hf
          refine G_iload dX8_pointsAt_78 rfl ?_
          refine G_iload dX8_pointsAt_80 rfl ?_
          refine G_icmp_ne 104 dX8_pointsAt_82 (by decide) (fun h10 => ?_) (fun h10 => ?_)
          · replace hf := ob_f h10 hf
            refine G_iload dX8_pointsAt_104 rfl ?_
            refine G_istore dX8_pointsAt_106 (ltb rfl) ?_
            change GG _ _ _ _ _ _ _ _ _ _ [some (.ref 0), some (.int v1), some (.int v2), some (.int v3), some (.int v4), some (.int v5), some (.int v6), some (.int t3), some (.int r5), some (.int r7)] _
            refine G_iinc 1 dX8_pointsAt_108 (by decide) rfl (ltb rfl) ?_
            change GG _ _ _ _ _ _ _ _ _ _ [some (.ref 0), some (.int v1), some (.int v2), some (.int v3), some (.int v4), some (.int v5), some (.int (v6 + 1)), some (.int t3), some (.int r5), some (.int r7)] _
            refine G_goto 20 dX8_pointsAt_111 (by decide) ?_
            refine GG.sb (lv2 := [some (.ref 0), some (.int v1), some (.int v2), some (.int v3), some (.int v4), some (.int v5), some (.int (v6 + 1)), none, none, none]) ?_ (lvS_v rfl (lvS_v rfl (lvS_v rfl (lvS_v rfl (lvS_v rfl (lvS_v rfl (lvS_v rfl (lvS_n (lvS_n (lvS_n (lvS_e)))))))))))
            exact ih hf
          · replace hf := ob_t h10 hf
            refine G_iload dX8_pointsAt_85 rfl ?_
            refine G_iload dX8_pointsAt_87 rfl ?_
            refine G_icmp_eq 104 dX8_pointsAt_89 (by decide) (fun h11 => ?_) (fun h11 => ?_)
            · replace hf := ob_t h11 hf
              refine G_iload dX8_pointsAt_104 rfl ?_
              refine G_istore dX8_pointsAt_106 (ltb rfl) ?_
              change GG _ _ _ _ _ _ _ _ _ _ [some (.ref 0), some (.int v1), some (.int v2), some (.int v3), some (.int v4), some (.int v5), some (.int v6), some (.int t3), some (.int r5), some (.int r7)] _
              refine G_iinc 1 dX8_pointsAt_108 (by decide) rfl (ltb rfl) ?_
              change GG _ _ _ _ _ _ _ _ _ _ [some (.ref 0), some (.int v1), some (.int v2), some (.int v3), some (.int v4), some (.int v5), some (.int (v6 + 1)), some (.int t3), some (.int r5), some (.int r7)] _
              refine G_goto 20 dX8_pointsAt_111 (by decide) ?_
              refine GG.sb (lv2 := [some (.ref 0), some (.int v1), some (.int v2), some (.int v3), some (.int v4), some (.int v5), some (.int (v6 + 1)), none, none, none]) ?_ (lvS_v rfl (lvS_v rfl (lvS_v rfl (lvS_v rfl (lvS_v rfl (lvS_v rfl (lvS_v rfl (lvS_n (lvS_n (lvS_n (lvS_e)))))))))))
              exact ih hf
            · replace hf := ob_f h11 hf
              refine G_iload dX8_pointsAt_92 rfl ?_
              refine G_iload dX8_pointsAt_94 rfl ?_
              refine G_icmp_ge 104 dX8_pointsAt_96 (by decide) (fun h12 => ?_) (fun h12 => ?_)
              · replace hf := ob_t h12 hf
                refine G_iload dX8_pointsAt_104 rfl ?_
                refine G_istore dX8_pointsAt_106 (ltb rfl) ?_
                change GG _ _ _ _ _ _ _ _ _ _ [some (.ref 0), some (.int v1), some (.int v2), some (.int v3), some (.int v4), some (.int v5), some (.int v6), some (.int t3), some (.int r5), some (.int r7)] _
                refine G_iinc 1 dX8_pointsAt_108 (by decide) rfl (ltb rfl) ?_
                change GG _ _ _ _ _ _ _ _ _ _ [some (.ref 0), some (.int v1), some (.int v2), some (.int v3), some (.int v4), some (.int v5), some (.int (v6 + 1)), some (.int t3), some (.int r5), some (.int r7)] _
                refine G_goto 20 dX8_pointsAt_111 (by decide) ?_
                refine GG.sb (lv2 := [some (.ref 0), some (.int v1), some (.int v2), some (.int v3), some (.int v4), some (.int v5), some (.int (v6 + 1)), none, none, none]) ?_ (lvS_v rfl (lvS_v rfl (lvS_v rfl (lvS_v rfl (lvS_v rfl (lvS_v rfl (lvS_v rfl (lvS_n (lvS_n (lvS_n (lvS_e)))))))))))
                exact ih hf
              · replace hf := ob_f h12 hf
                refine G_iload dX8_pointsAt_99 rfl ?_
                refine G_goto 106 dX8_pointsAt_101 (by decide) ?_
                refine G_istore dX8_pointsAt_106 (ltb rfl) ?_
                change GG _ _ _ _ _ _ _ _ _ _ [some (.ref 0), some (.int v1), some (.int v2), some (.int v3), some (.int v4), some (.int t3), some (.int v6), some (.int t3), some (.int r5), some (.int r7)] _
                refine G_iinc 1 dX8_pointsAt_108 (by decide) rfl (ltb rfl) ?_
                change GG _ _ _ _ _ _ _ _ _ _ [some (.ref 0), some (.int v1), some (.int v2), some (.int v3), some (.int v4), some (.int t3), some (.int (v6 + 1)), some (.int t3), some (.int r5), some (.int r7)] _
                refine G_goto 20 dX8_pointsAt_111 (by decide) ?_
                refine GG.sb (lv2 := [some (.ref 0), some (.int v1), some (.int v2), some (.int v3), some (.int v4), some (.int t3), some (.int (v6 + 1)), none, none, none]) ?_ (lvS_v rfl (lvS_v rfl (lvS_v rfl (lvS_v rfl (lvS_v rfl (lvS_v rfl (lvS_v rfl (lvS_n (lvS_n (lvS_n (lvS_e)))))))))))
                exact ih hf
def f_X8_pointsAt (N : Nat) (c_askers : Int32) (c_told : Nat → Int32) (c_wish : Nat → Int32) (a1 : Int32) (a2 : Int32) (a3 : Int32) : Option (Int32) :=
  (rdI 32 c_told ((8 * a1) + a2)).bind fun t1 =>
  f_X8_pointsAt_20 N c_askers c_told c_wish N a1 a2 a3 t1 t1 0
set_option maxHeartbeats 4000000 in
set_option maxRecDepth 100000 in
theorem c_X8_pointsAt {N : Nat} {c_askers : Int32} {c_told : Nat → Int32} {c_wish : Nat → Int32}  {u_places : Int32} {u_above : Int64} {u_below : Int64} {u_full : Int32} {u_firsts : Int32} {u_freed : Int32} {u_whole : Int64} {a1 : Int32} {a2 : Int32} {a3 : Int32} {res : Int32} (hf : f_X8_pointsAt N c_askers c_told c_wish a1 a2 a3 = some res) : Con mu_X8_pointsAt [.ref 0, .int a1, .int a2, .int a3] (w_X8_pointsAt c_askers c_told c_wish u_places u_above u_below u_full u_firsts u_freed u_whole) (some (.int res)) (w_X8_pointsAt c_askers c_told c_wish u_places u_above u_below u_full u_firsts u_freed u_whole) := by
  refine Con.mk (show plainName RX8 = true by decide +kernel) (leb rfl) (fun κ ω A ad => ?_)
  change GG mu_X8_pointsAt κ ω A (QR κ ω A ad (some (.int res)) (w_X8_pointsAt c_askers c_told c_wish u_places u_above u_below u_full u_firsts u_freed u_whole)) ad 0 0 0 (w_X8_pointsAt c_askers c_told c_wish u_places u_above u_below u_full u_firsts u_freed u_whole) [some (.ref 0), some (.int a1), some (.int a2), some (.int a3), none, none, none, none, none, none] []
  refine G_aload_n dX8_pointsAt_0 rfl rfl ?_
  refine G_get (v := .ref 1) F_X8_16 dX8_pointsAt_1 rfl rfl ?_
  refine G_bipush 8 dX8_pointsAt_4 (by decide) ?_
  refine G_iload_n dX8_pointsAt_6 rfl rfl ?_
  refine G_imul dX8_pointsAt_7 ?_
  refine G_iload_n dX8_pointsAt_8 rfl rfl ?_
  refine G_iadd dX8_pointsAt_9 ?_
  obtain ⟨t1, ht1, hf⟩ := ob hf
  refine G_iald dX8_pointsAt_10 rfl ht1 ?_
  refine G_istore dX8_pointsAt_11 (ltb rfl) ?_
  change GG _ _ _ _ _ _ _ _ _ _ [some (.ref 0), some (.int a1), some (.int a2), some (.int a3), some (.int t1), none, none, none, none, none] _
  refine G_iload dX8_pointsAt_13 rfl ?_
  refine G_istore dX8_pointsAt_15 (ltb rfl) ?_
  change GG _ _ _ _ _ _ _ _ _ _ [some (.ref 0), some (.int a1), some (.int a2), some (.int a3), some (.int t1), some (.int t1), none, none, none, none] _
  refine G_iconst 0 dX8_pointsAt_17 (by decide) ?_
  refine G_istore dX8_pointsAt_18 (ltb rfl) ?_
  change GG _ _ _ _ _ _ _ _ _ _ [some (.ref 0), some (.int a1), some (.int a2), some (.int a3), some (.int t1), some (.int t1), some (.int 0), none, none, none] _
  exact g_X8_pointsAt_20 N hf
set_option maxRecDepth 20000 in
theorem dX8_isRing_0 : decode cX8_isRing 0 = .ok (.aload_n 0, 1) := by decide +kernel
set_option maxRecDepth 20000 in
theorem dX8_isRing_1 : decode cX8_isRing 1 = .ok (.getfield 55, 3) := by decide +kernel
set_option maxRecDepth 20000 in
theorem dX8_isRing_4 : decode cX8_isRing 4 = .ok (.iload_n 1, 1) := by decide +kernel
set_option maxRecDepth 20000 in
theorem dX8_isRing_5 : decode cX8_isRing 5 = .ok (.iaload, 1) := by decide +kernel
set_option maxRecDepth 20000 in
theorem dX8_isRing_6 : decode cX8_isRing 6 = .ok (.istore_n 2, 1) := by decide +kernel
set_option maxRecDepth 20000 in
theorem dX8_isRing_7 : decode cX8_isRing 7 = .ok (.iconst 0, 1) := by decide +kernel
set_option maxRecDepth 20000 in
theorem dX8_isRing_8 : decode cX8_isRing 8 = .ok (.istore_n 3, 1) := by decide +kernel
set_option maxRecDepth 20000 in
theorem dX8_isRing_9 : decode cX8_isRing 9 = .ok (.iload_n 3, 1) := by decide +kernel
set_option maxRecDepth 20000 in
theorem dX8_isRing_10 : decode cX8_isRing 10 = .ok (.bipush 8, 2) := by decide +kernel
set_option maxRecDepth 20000 in
theorem dX8_isRing_12 : decode cX8_isRing 12 = .ok (.if_icmp .ge 21, 3) := by decide +kernel
set_option maxRecDepth 20000 in
theorem dX8_isRing_15 : decode cX8_isRing 15 = .ok (.iload_n 2, 1) := by decide +kernel
set_option maxRecDepth 20000 in
theorem dX8_isRing_16 : decode cX8_isRing 16 = .ok (.iload_n 1, 1) := by decide +kernel
set_option maxRecDepth 20000 in
theorem dX8_isRing_17 : decode cX8_isRing 17 = .ok (.if_icmp .eq 16, 3) := by decide +kernel
set_option maxRecDepth 20000 in
theorem dX8_isRing_20 : decode cX8_isRing 20 = .ok (.aload_n 0, 1) := by decide +kernel
set_option maxRecDepth 20000 in
theorem dX8_isRing_21 : decode cX8_isRing 21 = .ok (.getfield 55, 3) := by decide +kernel
set_option maxRecDepth 20000 in
theorem dX8_isRing_24 : decode cX8_isRing 24 = .ok (.iload_n 2, 1) := by decide +kernel
set_option maxRecDepth 20000 in
theorem dX8_isRing_25 : decode cX8_isRing 25 = .ok (.iaload, 1) := by decide +kernel
set_option maxRecDepth 20000 in
theorem dX8_isRing_26 : decode cX8_isRing 26 = .ok (.istore_n 2, 1) := by decide +kernel
set_option maxRecDepth 20000 in
theorem dX8_isRing_27 : decode cX8_isRing 27 = .ok (.iinc 3 1, 3) := by decide +kernel
set_option maxRecDepth 20000 in
theorem dX8_isRing_30 : decode cX8_isRing 30 = .ok (.goto (-21), 3) := by decide +kernel
set_option maxRecDepth 20000 in
theorem dX8_isRing_33 : decode cX8_isRing 33 = .ok (.iload_n 2, 1) := by decide +kernel
set_option maxRecDepth 20000 in
theorem dX8_isRing_34 : decode cX8_isRing 34 = .ok (.iload_n 1, 1) := by decide +kernel
set_option maxRecDepth 20000 in
theorem dX8_isRing_35 : decode cX8_isRing 35 = .ok (.if_icmp .ne 7, 3) := by decide +kernel
set_option maxRecDepth 20000 in
theorem dX8_isRing_38 : decode cX8_isRing 38 = .ok (.iconst 1, 1) := by decide +kernel
set_option maxRecDepth 20000 in
theorem dX8_isRing_39 : decode cX8_isRing 39 = .ok (.goto 4, 3) := by decide +kernel
set_option maxRecDepth 20000 in
theorem dX8_isRing_42 : decode cX8_isRing 42 = .ok (.iconst 0, 1) := by decide +kernel
set_option maxRecDepth 20000 in
theorem dX8_isRing_43 : decode cX8_isRing 43 = .ok (.ireturn, 1) := by decide +kernel
def f_X8_isRing_33 (N : Nat) (c_points : Nat → Int32) (v1 : Int32) (v2 : Int32) : Option (Int32) :=
    (if v2 = v1 then
      some 1
    else
      some 0)
set_option maxHeartbeats 4000000 in
set_option maxRecDepth 100000 in
theorem g_X8_isRing_33 {κ : KC} {ω : KW} {A : Nat → Prop} {ad : Nat → Nat} {u_askers : Int32} {u_places : Int32} {u_above : Int64} {u_below : Int64} {u_full : Int32} {u_firsts : Int32} {u_freed : Int32} {u_whole : Int64} {N : Nat} {c_points : Nat → Int32}  {res : Int32} {v1 : Int32} {v2 : Int32} (hf : f_X8_isRing_33 N c_points v1 v2 = some res) : GG mu_X8_isRing κ ω A (QR κ ω A ad (some (.int res)) (w_X8_isRing c_points u_askers u_places u_above u_below u_full u_firsts u_freed u_whole)) ad 0 0 33 (w_X8_isRing c_points u_askers u_places u_above u_below u_full u_firsts u_freed u_whole) [none, some (.int v1), some (.int v2), none] [] := by
  refine G_iload_n dX8_isRing_33 rfl rfl ?_
  refine G_iload_n dX8_isRing_34 rfl rfl ?_
  refine G_icmp_ne 42 dX8_isRing_35 (by decide) (fun h1 => ?_) (fun h1 => ?_)
  · replace hf := ob_f h1 hf
    refine G_iconst 0 dX8_isRing_42 (by decide) ?_
    obtain rfl := os hf
    exact G_zreturn dX8_isRing_43 rfl z_0
  · replace hf := ob_t h1 hf
    refine G_iconst 1 dX8_isRing_38 (by decide) ?_
    refine G_goto 43 dX8_isRing_39 (by decide) ?_
    obtain rfl := os hf
    exact G_zreturn dX8_isRing_43 rfl z_1
def f_X8_isRing_9 (N : Nat) (c_points : Nat → Int32) : Nat → Int32 → Int32 → Int32 → Option (Int32)
  | 0, _, _, _ => none
  | n + 1, v1, v2, v3 =>
    (if 8 ≤ v3 then
      f_X8_isRing_33 N c_points v1 v2
    else
      (if v2 = v1 then
        f_X8_isRing_33 N c_points v1 v2
      else
        (rdI 8 c_points v2).bind fun t3 =>
        f_X8_isRing_9 N c_points n v1 t3 (v3 + 1)))
set_option maxHeartbeats 4000000 in
set_option maxRecDepth 100000 in
theorem g_X8_isRing_9 {κ : KC} {ω : KW} {A : Nat → Prop} {ad : Nat → Nat} {u_askers : Int32} {u_places : Int32} {u_above : Int64} {u_below : Int64} {u_full : Int32} {u_firsts : Int32} {u_freed : Int32} {u_whole : Int64} {N : Nat} {c_points : Nat → Int32}  {res : Int32} : ∀ (n : Nat) {v1 : Int32} {v2 : Int32} {v3 : Int32}, f_X8_isRing_9 N c_points n v1 v2 v3 = some res → GG mu_X8_isRing κ ω A (QR κ ω A ad (some (.int res)) (w_X8_isRing c_points u_askers u_places u_above u_below u_full u_firsts u_freed u_whole)) ad 0 0 9 (w_X8_isRing c_points u_askers u_places u_above u_below u_full u_firsts u_freed u_whole) [some (.ref 0), some (.int v1), some (.int v2), some (.int v3)] [] := by
  intro n
  induction n with
  | zero => intro v1 v2 v3 hf; exact ob_0 hf
  | succ n ih =>
    intro v1 v2 v3 hf
    refine G_iload_n dX8_isRing_9 rfl rfl ?_
    refine G_bipush 8 dX8_isRing_10 (by decide) ?_
    refine G_icmp_ge 33 dX8_isRing_12 (by decide) (fun h1 => ?_) (fun h1 => ?_)
    · replace hf := ob_t h1 hf
      refine GG.sb (lv2 := [none, some (.int v1), some (.int v2), none]) ?_ (lvS_n (lvS_v rfl (lvS_v rfl (lvS_n (lvS_e)))))
      exact g_X8_isRing_33 hf
    · replace hf := ob_f h1 hf
      refine G_iload_n dX8_isRing_15 rfl rfl ?_
      refine G_iload_n dX8_isRing_16 rfl rfl ?_
      refine G_icmp_eq 33 dX8_isRing_17 (by decide) (fun h2 => ?_) (fun h2 => ?_)
      · replace hf := ob_t h2 hf
        refine GG.sb (lv2 := [none, some (.int v1), some (.int v2), none]) ?_ (lvS_n (lvS_v rfl (lvS_v rfl (lvS_n (lvS_e)))))
        exact g_X8_isRing_33 hf
      · replace hf := ob_f h2 hf
        refine G_aload_n dX8_isRing_20 rfl rfl ?_
        refine G_get (v := .ref 1) F_X8_55 dX8_isRing_21 rfl rfl ?_
        refine G_iload_n dX8_isRing_24 rfl rfl ?_
        obtain ⟨t3, ht3, hf⟩ := ob hf
        refine G_iald dX8_isRing_25 rfl ht3 ?_
        refine G_istore_n dX8_isRing_26 rfl (ltb rfl) ?_
        change GG _ _ _ _ _ _ _ _ _ _ [some (.ref 0), some (.int v1), some (.int t3), some (.int v3)] _
        refine G_iinc 1 dX8_isRing_27 (by decide) rfl (ltb rfl) ?_
        change GG _ _ _ _ _ _ _ _ _ _ [some (.ref 0), some (.int v1), some (.int t3), some (.int (v3 + 1))] _
        refine G_goto 9 dX8_isRing_30 (by decide) ?_
        exact ih hf
def f_X8_isRing (N : Nat) (c_points : Nat → Int32) (a1 : Int32) : Option (Int32) :=
  (rdI 8 c_points a1).bind fun t1 =>
  f_X8_isRing_9 N c_points N a1 t1 0
set_option maxHeartbeats 4000000 in
set_option maxRecDepth 100000 in
theorem c_X8_isRing {N : Nat} {c_points : Nat → Int32}  {u_askers : Int32} {u_places : Int32} {u_above : Int64} {u_below : Int64} {u_full : Int32} {u_firsts : Int32} {u_freed : Int32} {u_whole : Int64} {a1 : Int32} {res : Int32} (hf : f_X8_isRing N c_points a1 = some res) : Con mu_X8_isRing [.ref 0, .int a1] (w_X8_isRing c_points u_askers u_places u_above u_below u_full u_firsts u_freed u_whole) (some (.int res)) (w_X8_isRing c_points u_askers u_places u_above u_below u_full u_firsts u_freed u_whole) := by
  refine Con.mk (show plainName RX8 = true by decide +kernel) (leb rfl) (fun κ ω A ad => ?_)
  change GG mu_X8_isRing κ ω A (QR κ ω A ad (some (.int res)) (w_X8_isRing c_points u_askers u_places u_above u_below u_full u_firsts u_freed u_whole)) ad 0 0 0 (w_X8_isRing c_points u_askers u_places u_above u_below u_full u_firsts u_freed u_whole) [some (.ref 0), some (.int a1), none, none] []
  refine G_aload_n dX8_isRing_0 rfl rfl ?_
  refine G_get (v := .ref 1) F_X8_55 dX8_isRing_1 rfl rfl ?_
  refine G_iload_n dX8_isRing_4 rfl rfl ?_
  obtain ⟨t1, ht1, hf⟩ := ob hf
  refine G_iald dX8_isRing_5 rfl ht1 ?_
  refine G_istore_n dX8_isRing_6 rfl (ltb rfl) ?_
  change GG _ _ _ _ _ _ _ _ _ _ [some (.ref 0), some (.int a1), some (.int t1), none] _
  refine G_iconst 0 dX8_isRing_7 (by decide) ?_
  refine G_istore_n dX8_isRing_8 rfl (ltb rfl) ?_
  change GG _ _ _ _ _ _ _ _ _ _ [some (.ref 0), some (.int a1), some (.int t1), some (.int 0)] _
  exact g_X8_isRing_9 N hf
set_option maxRecDepth 20000 in
theorem dX8_findTrade_0 : decode cX8_findTrade 0 = .ok (.iconst 0, 1) := by decide +kernel
set_option maxRecDepth 20000 in
theorem dX8_findTrade_1 : decode cX8_findTrade 1 = .ok (.istore_n 2, 1) := by decide +kernel
set_option maxRecDepth 20000 in
theorem dX8_findTrade_2 : decode cX8_findTrade 2 = .ok (.iconst 0, 1) := by decide +kernel
set_option maxRecDepth 20000 in
theorem dX8_findTrade_3 : decode cX8_findTrade 3 = .ok (.istore_n 3, 1) := by decide +kernel
set_option maxRecDepth 20000 in
theorem dX8_findTrade_4 : decode cX8_findTrade 4 = .ok (.iload_n 3, 1) := by decide +kernel
set_option maxRecDepth 20000 in
theorem dX8_findTrade_5 : decode cX8_findTrade 5 = .ok (.aload_n 0, 1) := by decide +kernel
set_option maxRecDepth 20000 in
theorem dX8_findTrade_6 : decode cX8_findTrade 6 = .ok (.getfield 89, 3) := by decide +kernel
set_option maxRecDepth 20000 in
theorem dX8_findTrade_9 : decode cX8_findTrade 9 = .ok (.if_icmp .ge 47, 3) := by decide +kernel
set_option maxRecDepth 20000 in
theorem dX8_findTrade_12 : decode cX8_findTrade 12 = .ok (.aload_n 0, 1) := by decide +kernel
set_option maxRecDepth 20000 in
theorem dX8_findTrade_13 : decode cX8_findTrade 13 = .ok (.getfield 52, 3) := by decide +kernel
set_option maxRecDepth 20000 in
theorem dX8_findTrade_16 : decode cX8_findTrade 16 = .ok (.iload_n 3, 1) := by decide +kernel
set_option maxRecDepth 20000 in
theorem dX8_findTrade_17 : decode cX8_findTrade 17 = .ok (.iconst 0, 1) := by decide +kernel
set_option maxRecDepth 20000 in
theorem dX8_findTrade_18 : decode cX8_findTrade 18 = .ok (.iastore, 1) := by decide +kernel
set_option maxRecDepth 20000 in
theorem dX8_findTrade_19 : decode cX8_findTrade 19 = .ok (.aload_n 0, 1) := by decide +kernel
set_option maxRecDepth 20000 in
theorem dX8_findTrade_20 : decode cX8_findTrade 20 = .ok (.getfield 27, 3) := by decide +kernel
set_option maxRecDepth 20000 in
theorem dX8_findTrade_23 : decode cX8_findTrade 23 = .ok (.iload_n 3, 1) := by decide +kernel
set_option maxRecDepth 20000 in
theorem dX8_findTrade_24 : decode cX8_findTrade 24 = .ok (.iconst 0, 1) := by decide +kernel
set_option maxRecDepth 20000 in
theorem dX8_findTrade_25 : decode cX8_findTrade 25 = .ok (.iastore, 1) := by decide +kernel
set_option maxRecDepth 20000 in
theorem dX8_findTrade_26 : decode cX8_findTrade 26 = .ok (.iload_n 2, 1) := by decide +kernel
set_option maxRecDepth 20000 in
theorem dX8_findTrade_27 : decode cX8_findTrade 27 = .ok (.aload_n 0, 1) := by decide +kernel
set_option maxRecDepth 20000 in
theorem dX8_findTrade_28 : decode cX8_findTrade 28 = .ok (.getfield 16, 3) := by decide +kernel
set_option maxRecDepth 20000 in
theorem dX8_findTrade_31 : decode cX8_findTrade 31 = .ok (.bipush 8, 2) := by decide +kernel
set_option maxRecDepth 20000 in
theorem dX8_findTrade_33 : decode cX8_findTrade 33 = .ok (.iload_n 1, 1) := by decide +kernel
set_option maxRecDepth 20000 in
theorem dX8_findTrade_34 : decode cX8_findTrade 34 = .ok (.imul, 1) := by decide +kernel
set_option maxRecDepth 20000 in
theorem dX8_findTrade_35 : decode cX8_findTrade 35 = .ok (.iload_n 3, 1) := by decide +kernel
set_option maxRecDepth 20000 in
theorem dX8_findTrade_36 : decode cX8_findTrade 36 = .ok (.iadd, 1) := by decide +kernel
set_option maxRecDepth 20000 in
theorem dX8_findTrade_37 : decode cX8_findTrade 37 = .ok (.iaload, 1) := by decide +kernel
set_option maxRecDepth 20000 in
theorem dX8_findTrade_38 : decode cX8_findTrade 38 = .ok (.ifCond .le 9, 3) := by decide +kernel
set_option maxRecDepth 20000 in
theorem dX8_findTrade_41 : decode cX8_findTrade 41 = .ok (.iconst 1, 1) := by decide +kernel
set_option maxRecDepth 20000 in
theorem dX8_findTrade_42 : decode cX8_findTrade 42 = .ok (.iload_n 3, 1) := by decide +kernel
set_option maxRecDepth 20000 in
theorem dX8_findTrade_43 : decode cX8_findTrade 43 = .ok (.ishl, 1) := by decide +kernel
set_option maxRecDepth 20000 in
theorem dX8_findTrade_44 : decode cX8_findTrade 44 = .ok (.goto 4, 3) := by decide +kernel
set_option maxRecDepth 20000 in
theorem dX8_findTrade_47 : decode cX8_findTrade 47 = .ok (.iconst 0, 1) := by decide +kernel
set_option maxRecDepth 20000 in
theorem dX8_findTrade_48 : decode cX8_findTrade 48 = .ok (.ior, 1) := by decide +kernel
set_option maxRecDepth 20000 in
theorem dX8_findTrade_49 : decode cX8_findTrade 49 = .ok (.istore_n 2, 1) := by decide +kernel
set_option maxRecDepth 20000 in
theorem dX8_findTrade_50 : decode cX8_findTrade 50 = .ok (.iinc 3 1, 3) := by decide +kernel
set_option maxRecDepth 20000 in
theorem dX8_findTrade_53 : decode cX8_findTrade 53 = .ok (.goto (-49), 3) := by decide +kernel
set_option maxRecDepth 20000 in
theorem dX8_findTrade_56 : decode cX8_findTrade 56 = .ok (.iconst 1, 1) := by decide +kernel
set_option maxRecDepth 20000 in
theorem dX8_findTrade_57 : decode cX8_findTrade 57 = .ok (.istore_n 3, 1) := by decide +kernel
set_option maxRecDepth 20000 in
theorem dX8_findTrade_58 : decode cX8_findTrade 58 = .ok (.iload_n 2, 1) := by decide +kernel
set_option maxRecDepth 20000 in
theorem dX8_findTrade_59 : decode cX8_findTrade 59 = .ok (.ifCond .eq 144, 3) := by decide +kernel
set_option maxRecDepth 20000 in
theorem dX8_findTrade_62 : decode cX8_findTrade 62 = .ok (.iconst 0, 1) := by decide +kernel
set_option maxRecDepth 20000 in
theorem dX8_findTrade_63 : decode cX8_findTrade 63 = .ok (.istore 4, 2) := by decide +kernel
set_option maxRecDepth 20000 in
theorem dX8_findTrade_65 : decode cX8_findTrade 65 = .ok (.iload 4, 2) := by decide +kernel
set_option maxRecDepth 20000 in
theorem dX8_findTrade_67 : decode cX8_findTrade 67 = .ok (.aload_n 0, 1) := by decide +kernel
set_option maxRecDepth 20000 in
theorem dX8_findTrade_68 : decode cX8_findTrade 68 = .ok (.getfield 89, 3) := by decide +kernel
set_option maxRecDepth 20000 in
theorem dX8_findTrade_71 : decode cX8_findTrade 71 = .ok (.if_icmp .ge 38, 3) := by decide +kernel
set_option maxRecDepth 20000 in
theorem dX8_findTrade_74 : decode cX8_findTrade 74 = .ok (.aload_n 0, 1) := by decide +kernel
set_option maxRecDepth 20000 in
theorem dX8_findTrade_75 : decode cX8_findTrade 75 = .ok (.getfield 55, 3) := by decide +kernel
set_option maxRecDepth 20000 in
theorem dX8_findTrade_78 : decode cX8_findTrade 78 = .ok (.iload 4, 2) := by decide +kernel
set_option maxRecDepth 20000 in
theorem dX8_findTrade_80 : decode cX8_findTrade 80 = .ok (.iload_n 2, 1) := by decide +kernel
set_option maxRecDepth 20000 in
theorem dX8_findTrade_81 : decode cX8_findTrade 81 = .ok (.iload 4, 2) := by decide +kernel
set_option maxRecDepth 20000 in
theorem dX8_findTrade_83 : decode cX8_findTrade 83 = .ok (.ishr, 1) := by decide +kernel
set_option maxRecDepth 20000 in
theorem dX8_findTrade_84 : decode cX8_findTrade 84 = .ok (.iconst 1, 1) := by decide +kernel
set_option maxRecDepth 20000 in
theorem dX8_findTrade_85 : decode cX8_findTrade 85 = .ok (.iand, 1) := by decide +kernel
set_option maxRecDepth 20000 in
theorem dX8_findTrade_86 : decode cX8_findTrade 86 = .ok (.iconst 1, 1) := by decide +kernel
set_option maxRecDepth 20000 in
theorem dX8_findTrade_87 : decode cX8_findTrade 87 = .ok (.if_icmp .ne 14, 3) := by decide +kernel
set_option maxRecDepth 20000 in
theorem dX8_findTrade_90 : decode cX8_findTrade 90 = .ok (.aload_n 0, 1) := by decide +kernel
set_option maxRecDepth 20000 in
theorem dX8_findTrade_91 : decode cX8_findTrade 91 = .ok (.iload_n 1, 1) := by decide +kernel
set_option maxRecDepth 20000 in
theorem dX8_findTrade_92 : decode cX8_findTrade 92 = .ok (.iload 4, 2) := by decide +kernel
set_option maxRecDepth 20000 in
theorem dX8_findTrade_94 : decode cX8_findTrade 94 = .ok (.iload_n 2, 1) := by decide +kernel
set_option maxRecDepth 20000 in
theorem dX8_findTrade_95 : decode cX8_findTrade 95 = .ok (.invokevirtual 204, 3) := by decide +kernel
set_option maxRecDepth 20000 in
theorem dX8_findTrade_98 : decode cX8_findTrade 98 = .ok (.goto 4, 3) := by decide +kernel
set_option maxRecDepth 20000 in
theorem dX8_findTrade_101 : decode cX8_findTrade 101 = .ok (.iconst (-1), 1) := by decide +kernel
set_option maxRecDepth 20000 in
theorem dX8_findTrade_102 : decode cX8_findTrade 102 = .ok (.iastore, 1) := by decide +kernel
set_option maxRecDepth 20000 in
theorem dX8_findTrade_103 : decode cX8_findTrade 103 = .ok (.iinc 4 1, 3) := by decide +kernel
set_option maxRecDepth 20000 in
theorem dX8_findTrade_106 : decode cX8_findTrade 106 = .ok (.goto (-41), 3) := by decide +kernel
set_option maxRecDepth 20000 in
theorem dX8_findTrade_109 : decode cX8_findTrade 109 = .ok (.iconst 0, 1) := by decide +kernel
set_option maxRecDepth 20000 in
theorem dX8_findTrade_110 : decode cX8_findTrade 110 = .ok (.istore 4, 2) := by decide +kernel
set_option maxRecDepth 20000 in
theorem dX8_findTrade_112 : decode cX8_findTrade 112 = .ok (.iconst 0, 1) := by decide +kernel
set_option maxRecDepth 20000 in
theorem dX8_findTrade_113 : decode cX8_findTrade 113 = .ok (.istore 5, 2) := by decide +kernel
set_option maxRecDepth 20000 in
theorem dX8_findTrade_115 : decode cX8_findTrade 115 = .ok (.iload 5, 2) := by decide +kernel
set_option maxRecDepth 20000 in
theorem dX8_findTrade_117 : decode cX8_findTrade 117 = .ok (.aload_n 0, 1) := by decide +kernel
set_option maxRecDepth 20000 in
theorem dX8_findTrade_118 : decode cX8_findTrade 118 = .ok (.getfield 89, 3) := by decide +kernel
set_option maxRecDepth 20000 in
theorem dX8_findTrade_121 : decode cX8_findTrade 121 = .ok (.if_icmp .ge 69, 3) := by decide +kernel
set_option maxRecDepth 20000 in
theorem dX8_findTrade_124 : decode cX8_findTrade 124 = .ok (.iload_n 2, 1) := by decide +kernel
set_option maxRecDepth 20000 in
theorem dX8_findTrade_125 : decode cX8_findTrade 125 = .ok (.iload 5, 2) := by decide +kernel
set_option maxRecDepth 20000 in
theorem dX8_findTrade_127 : decode cX8_findTrade 127 = .ok (.ishr, 1) := by decide +kernel
set_option maxRecDepth 20000 in
theorem dX8_findTrade_128 : decode cX8_findTrade 128 = .ok (.iconst 1, 1) := by decide +kernel
set_option maxRecDepth 20000 in
theorem dX8_findTrade_129 : decode cX8_findTrade 129 = .ok (.iand, 1) := by decide +kernel
set_option maxRecDepth 20000 in
theorem dX8_findTrade_130 : decode cX8_findTrade 130 = .ok (.iconst 1, 1) := by decide +kernel
set_option maxRecDepth 20000 in
theorem dX8_findTrade_131 : decode cX8_findTrade 131 = .ok (.if_icmp .ne 53, 3) := by decide +kernel
set_option maxRecDepth 20000 in
theorem dX8_findTrade_134 : decode cX8_findTrade 134 = .ok (.aload_n 0, 1) := by decide +kernel
set_option maxRecDepth 20000 in
theorem dX8_findTrade_135 : decode cX8_findTrade 135 = .ok (.iload 5, 2) := by decide +kernel
set_option maxRecDepth 20000 in
theorem dX8_findTrade_137 : decode cX8_findTrade 137 = .ok (.invokevirtual 207, 3) := by decide +kernel
set_option maxRecDepth 20000 in
theorem dX8_findTrade_140 : decode cX8_findTrade 140 = .ok (.ifCond .eq 44, 3) := by decide +kernel
set_option maxRecDepth 20000 in
theorem dX8_findTrade_143 : decode cX8_findTrade 143 = .ok (.aload_n 0, 1) := by decide +kernel
set_option maxRecDepth 20000 in
theorem dX8_findTrade_144 : decode cX8_findTrade 144 = .ok (.getfield 27, 3) := by decide +kernel
set_option maxRecDepth 20000 in
theorem dX8_findTrade_147 : decode cX8_findTrade 147 = .ok (.iload 5, 2) := by decide +kernel
set_option maxRecDepth 20000 in
theorem dX8_findTrade_149 : decode cX8_findTrade 149 = .ok (.aload_n 0, 1) := by decide +kernel
set_option maxRecDepth 20000 in
theorem dX8_findTrade_150 : decode cX8_findTrade 150 = .ok (.getfield 16, 3) := by decide +kernel
set_option maxRecDepth 20000 in
theorem dX8_findTrade_153 : decode cX8_findTrade 153 = .ok (.bipush 8, 2) := by decide +kernel
set_option maxRecDepth 20000 in
theorem dX8_findTrade_155 : decode cX8_findTrade 155 = .ok (.iload_n 1, 1) := by decide +kernel
set_option maxRecDepth 20000 in
theorem dX8_findTrade_156 : decode cX8_findTrade 156 = .ok (.imul, 1) := by decide +kernel
set_option maxRecDepth 20000 in
theorem dX8_findTrade_157 : decode cX8_findTrade 157 = .ok (.aload_n 0, 1) := by decide +kernel
set_option maxRecDepth 20000 in
theorem dX8_findTrade_158 : decode cX8_findTrade 158 = .ok (.getfield 55, 3) := by decide +kernel
set_option maxRecDepth 20000 in
theorem dX8_findTrade_161 : decode cX8_findTrade 161 = .ok (.iload 5, 2) := by decide +kernel
set_option maxRecDepth 20000 in
theorem dX8_findTrade_163 : decode cX8_findTrade 163 = .ok (.iaload, 1) := by decide +kernel
set_option maxRecDepth 20000 in
theorem dX8_findTrade_164 : decode cX8_findTrade 164 = .ok (.iadd, 1) := by decide +kernel
set_option maxRecDepth 20000 in
theorem dX8_findTrade_165 : decode cX8_findTrade 165 = .ok (.iaload, 1) := by decide +kernel
set_option maxRecDepth 20000 in
theorem dX8_findTrade_166 : decode cX8_findTrade 166 = .ok (.iastore, 1) := by decide +kernel
set_option maxRecDepth 20000 in
theorem dX8_findTrade_167 : decode cX8_findTrade 167 = .ok (.aload_n 0, 1) := by decide +kernel
set_option maxRecDepth 20000 in
theorem dX8_findTrade_168 : decode cX8_findTrade 168 = .ok (.getfield 52, 3) := by decide +kernel
set_option maxRecDepth 20000 in
theorem dX8_findTrade_171 : decode cX8_findTrade 171 = .ok (.iload 5, 2) := by decide +kernel
set_option maxRecDepth 20000 in
theorem dX8_findTrade_173 : decode cX8_findTrade 173 = .ok (.iload_n 3, 1) := by decide +kernel
set_option maxRecDepth 20000 in
theorem dX8_findTrade_174 : decode cX8_findTrade 174 = .ok (.iastore, 1) := by decide +kernel
set_option maxRecDepth 20000 in
theorem dX8_findTrade_175 : decode cX8_findTrade 175 = .ok (.iload 4, 2) := by decide +kernel
set_option maxRecDepth 20000 in
theorem dX8_findTrade_177 : decode cX8_findTrade 177 = .ok (.iconst 1, 1) := by decide +kernel
set_option maxRecDepth 20000 in
theorem dX8_findTrade_178 : decode cX8_findTrade 178 = .ok (.iload 5, 2) := by decide +kernel
set_option maxRecDepth 20000 in
theorem dX8_findTrade_180 : decode cX8_findTrade 180 = .ok (.ishl, 1) := by decide +kernel
set_option maxRecDepth 20000 in
theorem dX8_findTrade_181 : decode cX8_findTrade 181 = .ok (.ior, 1) := by decide +kernel
set_option maxRecDepth 20000 in
theorem dX8_findTrade_182 : decode cX8_findTrade 182 = .ok (.istore 4, 2) := by decide +kernel
set_option maxRecDepth 20000 in
theorem dX8_findTrade_184 : decode cX8_findTrade 184 = .ok (.iinc 5 1, 3) := by decide +kernel
set_option maxRecDepth 20000 in
theorem dX8_findTrade_187 : decode cX8_findTrade 187 = .ok (.goto (-72), 3) := by decide +kernel
set_option maxRecDepth 20000 in
theorem dX8_findTrade_190 : decode cX8_findTrade 190 = .ok (.iload_n 2, 1) := by decide +kernel
set_option maxRecDepth 20000 in
theorem dX8_findTrade_191 : decode cX8_findTrade 191 = .ok (.iload 4, 2) := by decide +kernel
set_option maxRecDepth 20000 in
theorem dX8_findTrade_193 : decode cX8_findTrade 193 = .ok (.iconst (-1), 1) := by decide +kernel
set_option maxRecDepth 20000 in
theorem dX8_findTrade_194 : decode cX8_findTrade 194 = .ok (.ixor, 1) := by decide +kernel
set_option maxRecDepth 20000 in
theorem dX8_findTrade_195 : decode cX8_findTrade 195 = .ok (.iand, 1) := by decide +kernel
set_option maxRecDepth 20000 in
theorem dX8_findTrade_196 : decode cX8_findTrade 196 = .ok (.istore_n 2, 1) := by decide +kernel
set_option maxRecDepth 20000 in
theorem dX8_findTrade_197 : decode cX8_findTrade 197 = .ok (.iinc 3 1, 3) := by decide +kernel
set_option maxRecDepth 20000 in
theorem dX8_findTrade_200 : decode cX8_findTrade 200 = .ok (.goto (-142), 3) := by decide +kernel
set_option maxRecDepth 20000 in
theorem dX8_findTrade_203 : decode cX8_findTrade 203 = .ok (.return_, 1) := by decide +kernel
def f_X8_findTrade_115 (N : Nat) (c_askers : Int32) (c_told : Nat → Int32) (c_wish : Nat → Int32) (k58 : (Nat → Int32) → (Nat → Int32) → (Nat → Int32) → Int32 → Int32 → Int32 → Option ((Nat → Int32) × (Nat → Int32) × (Nat → Int32))) : Nat → (Nat → Int32) → (Nat → Int32) → (Nat → Int32) → Int32 → Int32 → Int32 → Int32 → Int32 → Option ((Nat → Int32) × (Nat → Int32) × (Nat → Int32))
  | 0, _, _, _, _, _, _, _, _ => none
  | n + 1, c_found, c_points, c_served, v1, v2, v3, v4, v5 =>
    (if c_askers ≤ v5 then
      k58 c_found c_points c_served v1 (v2 &&& (v4 ^^^ (-1 : Int32))) (v3 + 1)
    else
      (if ((v2 >>> (v5 &&& 31)) &&& (1 : Int32)) = 1 then
        (f_X8_isRing N c_points v5).bind fun r3 =>
        (if r3 = 0 then
          f_X8_findTrade_115 N c_askers c_told c_wish k58 n c_found c_points c_served v1 v2 v3 v4 (v5 + 1)
        else
          (rdI 8 c_points v5).bind fun t6 =>
          (rdI 32 c_told ((8 * v1) + t6)).bind fun t7 =>
          (wrI 8 c_found v5 t7).bind fun t8 =>
          (wrI 8 c_served v5 v3).bind fun t9 =>
          f_X8_findTrade_115 N c_askers c_told c_wish k58 n t8 c_points t9 v1 v2 v3 (v4 ||| ((1 : Int32) <<< (v5 &&& 31))) (v5 + 1))
      else
        f_X8_findTrade_115 N c_askers c_told c_wish k58 n c_found c_points c_served v1 v2 v3 v4 (v5 + 1)))
set_option maxHeartbeats 4000000 in
set_option maxRecDepth 100000 in
theorem g_X8_findTrade_115 {κ : KC} {ω : KW} {A : Nat → Prop} {ad : Nat → Nat} {u_places : Int32} {u_above : Int64} {u_below : Int64} {u_full : Int32} {u_firsts : Int32} {u_freed : Int32} {u_whole : Int64} {N : Nat} {c_askers : Int32} {c_told : Nat → Int32} {c_wish : Nat → Int32}  {k58 : (Nat → Int32) → (Nat → Int32) → (Nat → Int32) → Int32 → Int32 → Int32 → Option ((Nat → Int32) × (Nat → Int32) × (Nat → Int32))} {res : (Nat → Int32) × (Nat → Int32) × (Nat → Int32)} (hk58 : ∀ {c_found : Nat → Int32} {c_points : Nat → Int32} {c_served : Nat → Int32} {v1 : Int32} {v2 : Int32} {v3 : Int32}, k58 c_found c_points c_served v1 v2 v3 = some res → GG mu_X8_findTrade κ ω A (QR κ ω A ad (none) (w_X8_findTrade c_askers res.1 res.2.1 res.2.2 c_told c_wish u_places u_above u_below u_full u_firsts u_freed u_whole)) ad 0 0 58 (w_X8_findTrade c_askers c_found c_points c_served c_told c_wish u_places u_above u_below u_full u_firsts u_freed u_whole) [some (.ref 0), some (.int v1), some (.int v2), some (.int v3), none, none] []) : ∀ (n : Nat) {c_found : Nat → Int32} {c_points : Nat → Int32} {c_served : Nat → Int32} {v1 : Int32} {v2 : Int32} {v3 : Int32} {v4 : Int32} {v5 : Int32}, f_X8_findTrade_115 N c_askers c_told c_wish k58 n c_found c_points c_served v1 v2 v3 v4 v5 = some res → GG mu_X8_findTrade κ ω A (QR κ ω A ad (none) (w_X8_findTrade c_askers res.1 res.2.1 res.2.2 c_told c_wish u_places u_above u_below u_full u_firsts u_freed u_whole)) ad 0 0 115 (w_X8_findTrade c_askers c_found c_points c_served c_told c_wish u_places u_above u_below u_full u_firsts u_freed u_whole) [some (.ref 0), some (.int v1), some (.int v2), some (.int v3), some (.int v4), some (.int v5)] [] := by
  intro n
  induction n with
  | zero => intro c_found c_points c_served v1 v2 v3 v4 v5 hf; exact ob_0 hf
  | succ n ih =>
    intro c_found c_points c_served v1 v2 v3 v4 v5 hf
    refine G_iload dX8_findTrade_115 rfl ?_
    refine G_aload_n dX8_findTrade_117 rfl rfl ?_
    refine G_get (v := .int c_askers) F_X8_89 dX8_findTrade_118 rfl rfl ?_
    refine G_icmp_ge 190 dX8_findTrade_121 (by decide) (fun h1 => ?_) (fun h1 => ?_)
    · replace hf := ob_t h1 hf
      refine G_iload_n dX8_findTrade_190 rfl rfl ?_
      refine G_iload dX8_findTrade_191 rfl ?_
      refine G_iconst (-1 : Int32) dX8_findTrade_193 (by decide) ?_
      refine G_ixor dX8_findTrade_194 ?_
      refine G_iand dX8_findTrade_195 ?_
      refine G_istore_n dX8_findTrade_196 rfl (ltb rfl) ?_
      change GG _ _ _ _ _ _ _ _ _ _ [some (.ref 0), some (.int v1), some (.int (v2 &&& (v4 ^^^ (-1 : Int32)))), some (.int v3), some (.int v4), some (.int v5)] _
      refine G_iinc 1 dX8_findTrade_197 (by decide) rfl (ltb rfl) ?_
      change GG _ _ _ _ _ _ _ _ _ _ [some (.ref 0), some (.int v1), some (.int (v2 &&& (v4 ^^^ (-1 : Int32)))), some (.int (v3 + 1)), some (.int v4), some (.int v5)] _
      refine G_goto 58 dX8_findTrade_200 (by decide) ?_
      refine GG.sb (lv2 := [some (.ref 0), some (.int v1), some (.int (v2 &&& (v4 ^^^ (-1 : Int32)))), some (.int (v3 + 1)), none, none]) ?_ (lvS_v rfl (lvS_v rfl (lvS_v rfl (lvS_v rfl (lvS_n (lvS_n (lvS_e)))))))
      exact hk58 hf
    · replace hf := ob_f h1 hf
      refine G_iload_n dX8_findTrade_124 rfl rfl ?_
      refine G_iload dX8_findTrade_125 rfl ?_
      refine G_ishr dX8_findTrade_127 ?_
      refine G_iconst 1 dX8_findTrade_128 (by decide) ?_
      refine G_iand dX8_findTrade_129 ?_
      refine G_iconst 1 dX8_findTrade_130 (by decide) ?_
      refine G_icmp_ne 184 dX8_findTrade_131 (by decide) (fun h2 => ?_) (fun h2 => ?_)
      · replace hf := ob_f h2 hf
        refine G_iinc 1 dX8_findTrade_184 (by decide) rfl (ltb rfl) ?_
        change GG _ _ _ _ _ _ _ _ _ _ [some (.ref 0), some (.int v1), some (.int v2), some (.int v3), some (.int v4), some (.int (v5 + 1))] _
        refine G_goto 115 dX8_findTrade_187 (by decide) ?_
        exact ih hf
      · replace hf := ob_t h2 hf
        refine G_aload_n dX8_findTrade_134 rfl rfl ?_
        refine G_iload dX8_findTrade_135 rfl ?_
        obtain ⟨r3, hc4, hf⟩ := ob hf
        refine G_callV (μ2 := mu_X8_isRing) (As := [.int v5]) (w2 := (w_X8_findTrade c_askers c_found c_points c_served c_told c_wish u_places u_above u_below u_full u_firsts u_freed u_whole)) (wc := (w_X8_isRing c_points c_askers u_places u_above u_below u_full u_firsts u_freed u_whole)) (wc2 := (w_X8_isRing c_points c_askers u_places u_above u_below u_full u_firsts u_freed u_whole)) (rest := []) (rv := [.int r3]) [0, 2] [1000, 5, 4, 1001, 1002, 1, 1003, 1004, 1005, 1006, 1007, 1008, 1009, 3, 1010, 1011, 1012, 1013, 1014, 1015] [1, 3, 4, 5] [4, 0, 5, 1, 2, 3] (c_X8_isRing hc4) cw_X8_isRing m_X8_207 dX8_findTrade_137 rfl ⟨leb rfl, leb rfl⟩ ⟨rfl, rfl⟩ rfl ⟨_, rfl, rfl⟩ (Fit.mk rfl rfl rfl) rfl (leb rfl) (ROsub.nil rfl rfl) rfl ?_
        change GG _ _ _ _ _ _ _ _ _ (w_X8_findTrade c_askers c_found c_points c_served c_told c_wish u_places u_above u_below u_full u_firsts u_freed u_whole) [some (.ref 0), some (.int v1), some (.int v2), some (.int v3), some (.int v4), some (.int v5)] [.int r3]
        refine G_if_eq 184 dX8_findTrade_140 (by decide) (fun h5 => ?_) (fun h5 => ?_)
        · replace hf := ob_t h5 hf
          refine G_iinc 1 dX8_findTrade_184 (by decide) rfl (ltb rfl) ?_
          change GG _ _ _ _ _ _ _ _ _ _ [some (.ref 0), some (.int v1), some (.int v2), some (.int v3), some (.int v4), some (.int (v5 + 1))] _
          refine G_goto 115 dX8_findTrade_187 (by decide) ?_
          exact ih hf
        · replace hf := ob_f h5 hf
          refine G_aload_n dX8_findTrade_143 rfl rfl ?_
          refine G_get (v := .ref 1) F_X8_27 dX8_findTrade_144 rfl rfl ?_
          refine G_iload dX8_findTrade_147 rfl ?_
          refine G_aload_n dX8_findTrade_149 rfl rfl ?_
          refine G_get (v := .ref 4) F_X8_16 dX8_findTrade_150 rfl rfl ?_
          refine G_bipush 8 dX8_findTrade_153 (by decide) ?_
          refine G_iload_n dX8_findTrade_155 rfl rfl ?_
          refine G_imul dX8_findTrade_156 ?_
          refine G_aload_n dX8_findTrade_157 rfl rfl ?_
          refine G_get (v := .ref 2) F_X8_55 dX8_findTrade_158 rfl rfl ?_
          refine G_iload dX8_findTrade_161 rfl ?_
          obtain ⟨t6, ht6, hf⟩ := ob hf
          refine G_iald dX8_findTrade_163 rfl ht6 ?_
          refine G_iadd dX8_findTrade_164 ?_
          obtain ⟨t7, ht7, hf⟩ := ob hf
          refine G_iald dX8_findTrade_165 rfl ht7 ?_
          obtain ⟨t8, ht8, hf⟩ := ob hf
          refine G_iast (w2 := (w_X8_findTrade c_askers t8 c_points c_served c_told c_wish u_places u_above u_below u_full u_firsts u_freed u_whole)) dX8_findTrade_166 rfl ht8 rfl ?_
          refine G_aload_n dX8_findTrade_167 rfl rfl ?_
          refine G_get (v := .ref 3) F_X8_52 dX8_findTrade_168 rfl rfl ?_
          refine G_iload dX8_findTrade_171 rfl ?_
          refine G_iload_n dX8_findTrade_173 rfl rfl ?_
          obtain ⟨t9, ht9, hf⟩ := ob hf
          refine G_iast (w2 := (w_X8_findTrade c_askers t8 c_points t9 c_told c_wish u_places u_above u_below u_full u_firsts u_freed u_whole)) dX8_findTrade_174 rfl ht9 rfl ?_
          refine G_iload dX8_findTrade_175 rfl ?_
          refine G_iconst 1 dX8_findTrade_177 (by decide) ?_
          refine G_iload dX8_findTrade_178 rfl ?_
          refine G_ishl dX8_findTrade_180 ?_
          refine G_ior dX8_findTrade_181 ?_
          refine G_istore dX8_findTrade_182 (ltb rfl) ?_
          change GG _ _ _ _ _ _ _ _ _ _ [some (.ref 0), some (.int v1), some (.int v2), some (.int v3), some (.int (v4 ||| ((1 : Int32) <<< (v5 &&& 31)))), some (.int v5)] _
          refine G_iinc 1 dX8_findTrade_184 (by decide) rfl (ltb rfl) ?_
          change GG _ _ _ _ _ _ _ _ _ _ [some (.ref 0), some (.int v1), some (.int v2), some (.int v3), some (.int (v4 ||| ((1 : Int32) <<< (v5 &&& 31)))), some (.int (v5 + 1))] _
          refine G_goto 115 dX8_findTrade_187 (by decide) ?_
          exact ih hf
def f_X8_findTrade_102 (N : Nat) (c_askers : Int32) (c_told : Nat → Int32) (c_wish : Nat → Int32) (k65 : (Nat → Int32) → (Nat → Int32) → (Nat → Int32) → Int32 → Int32 → Int32 → Int32 → Option ((Nat → Int32) × (Nat → Int32) × (Nat → Int32))) (c_found : Nat → Int32) (c_points : Nat → Int32) (c_served : Nat → Int32) (v1 : Int32) (v2 : Int32) (v3 : Int32) (v4 : Int32) (s1 : Int32) (s2 : Int32) : Option ((Nat → Int32) × (Nat → Int32) × (Nat → Int32)) :=
    (wrI 8 c_points s1 s2).bind fun t1 =>
    k65 c_found t1 c_served v1 v2 v3 (v4 + 1)
set_option maxHeartbeats 4000000 in
set_option maxRecDepth 100000 in
theorem g_X8_findTrade_102 {κ : KC} {ω : KW} {A : Nat → Prop} {ad : Nat → Nat} {u_places : Int32} {u_above : Int64} {u_below : Int64} {u_full : Int32} {u_firsts : Int32} {u_freed : Int32} {u_whole : Int64} {N : Nat} {c_askers : Int32} {c_told : Nat → Int32} {c_wish : Nat → Int32}  {k65 : (Nat → Int32) → (Nat → Int32) → (Nat → Int32) → Int32 → Int32 → Int32 → Int32 → Option ((Nat → Int32) × (Nat → Int32) × (Nat → Int32))} {res : (Nat → Int32) × (Nat → Int32) × (Nat → Int32)} (hk65 : ∀ {c_found : Nat → Int32} {c_points : Nat → Int32} {c_served : Nat → Int32} {v1 : Int32} {v2 : Int32} {v3 : Int32} {v4 : Int32}, k65 c_found c_points c_served v1 v2 v3 v4 = some res → GG mu_X8_findTrade κ ω A (QR κ ω A ad (none) (w_X8_findTrade c_askers res.1 res.2.1 res.2.2 c_told c_wish u_places u_above u_below u_full u_firsts u_freed u_whole)) ad 0 0 65 (w_X8_findTrade c_askers c_found c_points c_served c_told c_wish u_places u_above u_below u_full u_firsts u_freed u_whole) [some (.ref 0), some (.int v1), some (.int v2), some (.int v3), some (.int v4), none] []) {c_found : Nat → Int32} {c_points : Nat → Int32} {c_served : Nat → Int32} {v1 : Int32} {v2 : Int32} {v3 : Int32} {v4 : Int32} {s1 : Int32} {s2 : Int32} (hf : f_X8_findTrade_102 N c_askers c_told c_wish k65 c_found c_points c_served v1 v2 v3 v4 s1 s2 = some res) : GG mu_X8_findTrade κ ω A (QR κ ω A ad (none) (w_X8_findTrade c_askers res.1 res.2.1 res.2.2 c_told c_wish u_places u_above u_below u_full u_firsts u_freed u_whole)) ad 0 0 102 (w_X8_findTrade c_askers c_found c_points c_served c_told c_wish u_places u_above u_below u_full u_firsts u_freed u_whole) [some (.ref 0), some (.int v1), some (.int v2), some (.int v3), some (.int v4), none] [.int s2, .int s1, .ref 2] := by
  obtain ⟨t1, ht1, hf⟩ := ob hf
  refine G_iast (w2 := (w_X8_findTrade c_askers c_found t1 c_served c_told c_wish u_places u_above u_below u_full u_firsts u_freed u_whole)) dX8_findTrade_102 rfl ht1 rfl ?_
  refine G_iinc 1 dX8_findTrade_103 (by decide) rfl (ltb rfl) ?_
  change GG _ _ _ _ _ _ _ _ _ _ [some (.ref 0), some (.int v1), some (.int v2), some (.int v3), some (.int (v4 + 1)), none] _
  refine G_goto 65 dX8_findTrade_106 (by decide) ?_
  exact hk65 hf
def f_X8_findTrade_65 (N : Nat) (c_askers : Int32) (c_told : Nat → Int32) (c_wish : Nat → Int32) (k58 : (Nat → Int32) → (Nat → Int32) → (Nat → Int32) → Int32 → Int32 → Int32 → Option ((Nat → Int32) × (Nat → Int32) × (Nat → Int32))) : Nat → (Nat → Int32) → (Nat → Int32) → (Nat → Int32) → Int32 → Int32 → Int32 → Int32 → Option ((Nat → Int32) × (Nat → Int32) × (Nat → Int32))
  | 0, _, _, _, _, _, _, _ => none
  | n + 1, c_found, c_points, c_served, v1, v2, v3, v4 =>
    (if c_askers ≤ v4 then
      f_X8_findTrade_115 N c_askers c_told c_wish k58 N c_found c_points c_served v1 v2 v3 0 0
    else
      (if ((v2 >>> (v4 &&& 31)) &&& (1 : Int32)) = 1 then
        (f_X8_pointsAt N c_askers c_told c_wish v1 v4 v2).bind fun r3 =>
        f_X8_findTrade_102 N c_askers c_told c_wish (f_X8_findTrade_65 N c_askers c_told c_wish k58 n) c_found c_points c_served v1 v2 v3 v4 v4 r3
      else
        f_X8_findTrade_102 N c_askers c_told c_wish (f_X8_findTrade_65 N c_askers c_told c_wish k58 n) c_found c_points c_served v1 v2 v3 v4 v4 (-1 : Int32)))
set_option maxHeartbeats 4000000 in
set_option maxRecDepth 100000 in
theorem g_X8_findTrade_65 {κ : KC} {ω : KW} {A : Nat → Prop} {ad : Nat → Nat} {u_places : Int32} {u_above : Int64} {u_below : Int64} {u_full : Int32} {u_firsts : Int32} {u_freed : Int32} {u_whole : Int64} {N : Nat} {c_askers : Int32} {c_told : Nat → Int32} {c_wish : Nat → Int32}  {k58 : (Nat → Int32) → (Nat → Int32) → (Nat → Int32) → Int32 → Int32 → Int32 → Option ((Nat → Int32) × (Nat → Int32) × (Nat → Int32))} {res : (Nat → Int32) × (Nat → Int32) × (Nat → Int32)} (hk58 : ∀ {c_found : Nat → Int32} {c_points : Nat → Int32} {c_served : Nat → Int32} {v1 : Int32} {v2 : Int32} {v3 : Int32}, k58 c_found c_points c_served v1 v2 v3 = some res → GG mu_X8_findTrade κ ω A (QR κ ω A ad (none) (w_X8_findTrade c_askers res.1 res.2.1 res.2.2 c_told c_wish u_places u_above u_below u_full u_firsts u_freed u_whole)) ad 0 0 58 (w_X8_findTrade c_askers c_found c_points c_served c_told c_wish u_places u_above u_below u_full u_firsts u_freed u_whole) [some (.ref 0), some (.int v1), some (.int v2), some (.int v3), none, none] []) : ∀ (n : Nat) {c_found : Nat → Int32} {c_points : Nat → Int32} {c_served : Nat → Int32} {v1 : Int32} {v2 : Int32} {v3 : Int32} {v4 : Int32}, f_X8_findTrade_65 N c_askers c_told c_wish k58 n c_found c_points c_served v1 v2 v3 v4 = some res → GG mu_X8_findTrade κ ω A (QR κ ω A ad (none) (w_X8_findTrade c_askers res.1 res.2.1 res.2.2 c_told c_wish u_places u_above u_below u_full u_firsts u_freed u_whole)) ad 0 0 65 (w_X8_findTrade c_askers c_found c_points c_served c_told c_wish u_places u_above u_below u_full u_firsts u_freed u_whole) [some (.ref 0), some (.int v1), some (.int v2), some (.int v3), some (.int v4), none] [] := by
  intro n
  induction n with
  | zero => intro c_found c_points c_served v1 v2 v3 v4 hf; exact ob_0 hf
  | succ n ih =>
    intro c_found c_points c_served v1 v2 v3 v4 hf
    refine G_iload dX8_findTrade_65 rfl ?_
    refine G_aload_n dX8_findTrade_67 rfl rfl ?_
    refine G_get (v := .int c_askers) F_X8_89 dX8_findTrade_68 rfl rfl ?_
    refine G_icmp_ge 109 dX8_findTrade_71 (by decide) (fun h1 => ?_) (fun h1 => ?_)
    · replace hf := ob_t h1 hf
      refine G_iconst 0 dX8_findTrade_109 (by decide) ?_
      refine G_istore dX8_findTrade_110 (ltb rfl) ?_
      change GG _ _ _ _ _ _ _ _ _ _ [some (.ref 0), some (.int v1), some (.int v2), some (.int v3), some (.int 0), none] _
      refine G_iconst 0 dX8_findTrade_112 (by decide) ?_
      refine G_istore dX8_findTrade_113 (ltb rfl) ?_
      change GG _ _ _ _ _ _ _ _ _ _ [some (.ref 0), some (.int v1), some (.int v2), some (.int v3), some (.int 0), some (.int 0)] _
      exact g_X8_findTrade_115 hk58 N hf
    · replace hf := ob_f h1 hf
      refine G_aload_n dX8_findTrade_74 rfl rfl ?_
      refine G_get (v := .ref 2) F_X8_55 dX8_findTrade_75 rfl rfl ?_
      refine G_iload dX8_findTrade_78 rfl ?_
      refine G_iload_n dX8_findTrade_80 rfl rfl ?_
      refine G_iload dX8_findTrade_81 rfl ?_
      refine G_ishr dX8_findTrade_83 ?_
      refine G_iconst 1 dX8_findTrade_84 (by decide) ?_
      refine G_iand dX8_findTrade_85 ?_
      refine G_iconst 1 dX8_findTrade_86 (by decide) ?_
      refine G_icmp_ne 101 dX8_findTrade_87 (by decide) (fun h2 => ?_) (fun h2 => ?_)
      · replace hf := ob_f h2 hf
        refine G_iconst (-1 : Int32) dX8_findTrade_101 (by decide) ?_
        exact g_X8_findTrade_102 ih hf
      · replace hf := ob_t h2 hf
        refine G_aload_n dX8_findTrade_90 rfl rfl ?_
        refine G_iload_n dX8_findTrade_91 rfl rfl ?_
        refine G_iload dX8_findTrade_92 rfl ?_
        refine G_iload_n dX8_findTrade_94 rfl rfl ?_
        obtain ⟨r3, hc4, hf⟩ := ob hf
        refine G_callV (μ2 := mu_X8_pointsAt) (As := [.int v1, .int v4, .int v2]) (w2 := (w_X8_findTrade c_askers c_found c_points c_served c_told c_wish u_places u_above u_below u_full u_firsts u_freed u_whole)) (wc := (w_X8_pointsAt c_askers c_told c_wish u_places u_above u_below u_full u_firsts u_freed u_whole)) (wc2 := (w_X8_pointsAt c_askers c_told c_wish u_places u_above u_below u_full u_firsts u_freed u_whole)) (rest := [.int v4, .ref 2]) (rv := [.int r3]) [0, 4, 5] [1000, 1001, 1002, 1, 1003, 1004, 1005, 1006, 1007, 1008, 1009, 3, 2, 1010, 1011, 1012, 1013, 1014, 1015] [1, 2, 3] [3, 0, 1, 2, 4, 5] (c_X8_pointsAt hc4) cw_X8_pointsAt m_X8_204 dX8_findTrade_95 rfl ⟨leb rfl, leb rfl⟩ ⟨rfl, rfl⟩ rfl ⟨_, rfl, rfl⟩ (Fit.mk rfl rfl rfl) rfl (leb rfl) (ROsub.nil rfl rfl) rfl ?_
        change GG _ _ _ _ _ _ _ _ _ (w_X8_findTrade c_askers c_found c_points c_served c_told c_wish u_places u_above u_below u_full u_firsts u_freed u_whole) [some (.ref 0), some (.int v1), some (.int v2), some (.int v3), some (.int v4), none] [.int r3, .int v4, .ref 2]
        refine G_goto 102 dX8_findTrade_98 (by decide) ?_
        exact g_X8_findTrade_102 ih hf
def f_X8_findTrade_58 (N : Nat) (c_askers : Int32) (c_told : Nat → Int32) (c_wish : Nat → Int32) : Nat → (Nat → Int32) → (Nat → Int32) → (Nat → Int32) → Int32 → Int32 → Int32 → Option ((Nat → Int32) × (Nat → Int32) × (Nat → Int32))
  | 0, _, _, _, _, _, _ => none
  | n + 1, c_found, c_points, c_served, v1, v2, v3 =>
    (if v2 = 0 then
      some (c_found, c_points, c_served)
    else
      f_X8_findTrade_65 N c_askers c_told c_wish (f_X8_findTrade_58 N c_askers c_told c_wish n) N c_found c_points c_served v1 v2 v3 0)
set_option maxHeartbeats 4000000 in
set_option maxRecDepth 100000 in
theorem g_X8_findTrade_58 {κ : KC} {ω : KW} {A : Nat → Prop} {ad : Nat → Nat} {u_places : Int32} {u_above : Int64} {u_below : Int64} {u_full : Int32} {u_firsts : Int32} {u_freed : Int32} {u_whole : Int64} {N : Nat} {c_askers : Int32} {c_told : Nat → Int32} {c_wish : Nat → Int32}  {res : (Nat → Int32) × (Nat → Int32) × (Nat → Int32)} : ∀ (n : Nat) {c_found : Nat → Int32} {c_points : Nat → Int32} {c_served : Nat → Int32} {v1 : Int32} {v2 : Int32} {v3 : Int32}, f_X8_findTrade_58 N c_askers c_told c_wish n c_found c_points c_served v1 v2 v3 = some res → GG mu_X8_findTrade κ ω A (QR κ ω A ad (none) (w_X8_findTrade c_askers res.1 res.2.1 res.2.2 c_told c_wish u_places u_above u_below u_full u_firsts u_freed u_whole)) ad 0 0 58 (w_X8_findTrade c_askers c_found c_points c_served c_told c_wish u_places u_above u_below u_full u_firsts u_freed u_whole) [some (.ref 0), some (.int v1), some (.int v2), some (.int v3), none, none] [] := by
  intro n
  induction n with
  | zero => intro c_found c_points c_served v1 v2 v3 hf; exact ob_0 hf
  | succ n ih =>
    intro c_found c_points c_served v1 v2 v3 hf
    refine G_iload_n dX8_findTrade_58 rfl rfl ?_
    refine G_if_eq 203 dX8_findTrade_59 (by decide) (fun h1 => ?_) (fun h1 => ?_)
    · replace hf := ob_t h1 hf
      obtain rfl := os hf
      exact G_return dX8_findTrade_203 rfl
    · replace hf := ob_f h1 hf
      refine G_iconst 0 dX8_findTrade_62 (by decide) ?_
      refine G_istore dX8_findTrade_63 (ltb rfl) ?_
      change GG _ _ _ _ _ _ _ _ _ _ [some (.ref 0), some (.int v1), some (.int v2), some (.int v3), some (.int 0), none] _
      exact g_X8_findTrade_65 ih N hf
def f_X8_findTrade_48 (N : Nat) (c_askers : Int32) (c_told : Nat → Int32) (c_wish : Nat → Int32) (k4 : (Nat → Int32) → (Nat → Int32) → (Nat → Int32) → Int32 → Int32 → Int32 → Option ((Nat → Int32) × (Nat → Int32) × (Nat → Int32))) (c_found : Nat → Int32) (c_points : Nat → Int32) (c_served : Nat → Int32) (v1 : Int32) (v3 : Int32) (s0 : Int32) (s1 : Int32) : Option ((Nat → Int32) × (Nat → Int32) × (Nat → Int32)) :=
    k4 c_found c_points c_served v1 (s0 ||| s1) (v3 + 1)
set_option maxHeartbeats 4000000 in
set_option maxRecDepth 100000 in
theorem g_X8_findTrade_48 {κ : KC} {ω : KW} {A : Nat → Prop} {ad : Nat → Nat} {u_places : Int32} {u_above : Int64} {u_below : Int64} {u_full : Int32} {u_firsts : Int32} {u_freed : Int32} {u_whole : Int64} {N : Nat} {c_askers : Int32} {c_told : Nat → Int32} {c_wish : Nat → Int32}  {k4 : (Nat → Int32) → (Nat → Int32) → (Nat → Int32) → Int32 → Int32 → Int32 → Option ((Nat → Int32) × (Nat → Int32) × (Nat → Int32))} {res : (Nat → Int32) × (Nat → Int32) × (Nat → Int32)} (hk4 : ∀ {c_found : Nat → Int32} {c_points : Nat → Int32} {c_served : Nat → Int32} {v1 : Int32} {v2 : Int32} {v3 : Int32}, k4 c_found c_points c_served v1 v2 v3 = some res → GG mu_X8_findTrade κ ω A (QR κ ω A ad (none) (w_X8_findTrade c_askers res.1 res.2.1 res.2.2 c_told c_wish u_places u_above u_below u_full u_firsts u_freed u_whole)) ad 0 0 4 (w_X8_findTrade c_askers c_found c_points c_served c_told c_wish u_places u_above u_below u_full u_firsts u_freed u_whole) [some (.ref 0), some (.int v1), some (.int v2), some (.int v3), none, none] []) {c_found : Nat → Int32} {c_points : Nat → Int32} {c_served : Nat → Int32} {v1 : Int32} {v3 : Int32} {s0 : Int32} {s1 : Int32} (hf : f_X8_findTrade_48 N c_askers c_told c_wish k4 c_found c_points c_served v1 v3 s0 s1 = some res) : GG mu_X8_findTrade κ ω A (QR κ ω A ad (none) (w_X8_findTrade c_askers res.1 res.2.1 res.2.2 c_told c_wish u_places u_above u_below u_full u_firsts u_freed u_whole)) ad 0 0 48 (w_X8_findTrade c_askers c_found c_points c_served c_told c_wish u_places u_above u_below u_full u_firsts u_freed u_whole) [some (.ref 0), some (.int v1), none, some (.int v3), none, none] [.int s1, .int s0] := by
  refine G_ior dX8_findTrade_48 ?_
  refine G_istore_n dX8_findTrade_49 rfl (ltb rfl) ?_
  change GG _ _ _ _ _ _ _ _ _ _ [some (.ref 0), some (.int v1), some (.int (s0 ||| s1)), some (.int v3), none, none] _
  refine G_iinc 1 dX8_findTrade_50 (by decide) rfl (ltb rfl) ?_
  change GG _ _ _ _ _ _ _ _ _ _ [some (.ref 0), some (.int v1), some (.int (s0 ||| s1)), some (.int (v3 + 1)), none, none] _
  refine G_goto 4 dX8_findTrade_53 (by decide) ?_
  exact hk4 hf
def f_X8_findTrade_4 (N : Nat) (c_askers : Int32) (c_told : Nat → Int32) (c_wish : Nat → Int32) : Nat → (Nat → Int32) → (Nat → Int32) → (Nat → Int32) → Int32 → Int32 → Int32 → Option ((Nat → Int32) × (Nat → Int32) × (Nat → Int32))
  | 0, _, _, _, _, _, _ => none
  | n + 1, c_found, c_points, c_served, v1, v2, v3 =>
    (if c_askers ≤ v3 then
      f_X8_findTrade_58 N c_askers c_told c_wish N c_found c_points c_served v1 v2 1
    else
      (wrI 8 c_served v3 0).bind fun t2 =>
      (wrI 8 c_found v3 0).bind fun t3 =>
      (rdI 32 c_told ((8 * v1) + v3)).bind fun t4 =>
      (if t4 ≤ 0 then
        f_X8_findTrade_48 N c_askers c_told c_wish (f_X8_findTrade_4 N c_askers c_told c_wish n) t3 c_points t2 v1 v3 v2 0
      else
        f_X8_findTrade_48 N c_askers c_told c_wish (f_X8_findTrade_4 N c_askers c_told c_wish n) t3 c_points t2 v1 v3 v2 ((1 : Int32) <<< (v3 &&& 31))))
set_option maxHeartbeats 4000000 in
set_option maxRecDepth 100000 in
theorem g_X8_findTrade_4 {κ : KC} {ω : KW} {A : Nat → Prop} {ad : Nat → Nat} {u_places : Int32} {u_above : Int64} {u_below : Int64} {u_full : Int32} {u_firsts : Int32} {u_freed : Int32} {u_whole : Int64} {N : Nat} {c_askers : Int32} {c_told : Nat → Int32} {c_wish : Nat → Int32}  {res : (Nat → Int32) × (Nat → Int32) × (Nat → Int32)} : ∀ (n : Nat) {c_found : Nat → Int32} {c_points : Nat → Int32} {c_served : Nat → Int32} {v1 : Int32} {v2 : Int32} {v3 : Int32}, f_X8_findTrade_4 N c_askers c_told c_wish n c_found c_points c_served v1 v2 v3 = some res → GG mu_X8_findTrade κ ω A (QR κ ω A ad (none) (w_X8_findTrade c_askers res.1 res.2.1 res.2.2 c_told c_wish u_places u_above u_below u_full u_firsts u_freed u_whole)) ad 0 0 4 (w_X8_findTrade c_askers c_found c_points c_served c_told c_wish u_places u_above u_below u_full u_firsts u_freed u_whole) [some (.ref 0), some (.int v1), some (.int v2), some (.int v3), none, none] [] := by
  intro n
  induction n with
  | zero => intro c_found c_points c_served v1 v2 v3 hf; exact ob_0 hf
  | succ n ih =>
    intro c_found c_points c_served v1 v2 v3 hf
    refine G_iload_n dX8_findTrade_4 rfl rfl ?_
    refine G_aload_n dX8_findTrade_5 rfl rfl ?_
    refine G_get (v := .int c_askers) F_X8_89 dX8_findTrade_6 rfl rfl ?_
    refine G_icmp_ge 56 dX8_findTrade_9 (by decide) (fun h1 => ?_) (fun h1 => ?_)
    · replace hf := ob_t h1 hf
      refine G_iconst 1 dX8_findTrade_56 (by decide) ?_
      refine G_istore_n dX8_findTrade_57 rfl (ltb rfl) ?_
      change GG _ _ _ _ _ _ _ _ _ _ [some (.ref 0), some (.int v1), some (.int v2), some (.int 1), none, none] _
      exact g_X8_findTrade_58 N hf
    · replace hf := ob_f h1 hf
      refine G_aload_n dX8_findTrade_12 rfl rfl ?_
      refine G_get (v := .ref 3) F_X8_52 dX8_findTrade_13 rfl rfl ?_
      refine G_iload_n dX8_findTrade_16 rfl rfl ?_
      refine G_iconst 0 dX8_findTrade_17 (by decide) ?_
      obtain ⟨t2, ht2, hf⟩ := ob hf
      refine G_iast (w2 := (w_X8_findTrade c_askers c_found c_points t2 c_told c_wish u_places u_above u_below u_full u_firsts u_freed u_whole)) dX8_findTrade_18 rfl ht2 rfl ?_
      refine G_aload_n dX8_findTrade_19 rfl rfl ?_
      refine G_get (v := .ref 1) F_X8_27 dX8_findTrade_20 rfl rfl ?_
      refine G_iload_n dX8_findTrade_23 rfl rfl ?_
      refine G_iconst 0 dX8_findTrade_24 (by decide) ?_
      obtain ⟨t3, ht3, hf⟩ := ob hf
      refine G_iast (w2 := (w_X8_findTrade c_askers t3 c_points t2 c_told c_wish u_places u_above u_below u_full u_firsts u_freed u_whole)) dX8_findTrade_25 rfl ht3 rfl ?_
      refine G_iload_n dX8_findTrade_26 rfl rfl ?_
      refine G_aload_n dX8_findTrade_27 rfl rfl ?_
      refine G_get (v := .ref 4) F_X8_16 dX8_findTrade_28 rfl rfl ?_
      refine G_bipush 8 dX8_findTrade_31 (by decide) ?_
      refine G_iload_n dX8_findTrade_33 rfl rfl ?_
      refine G_imul dX8_findTrade_34 ?_
      refine G_iload_n dX8_findTrade_35 rfl rfl ?_
      refine G_iadd dX8_findTrade_36 ?_
      obtain ⟨t4, ht4, hf⟩ := ob hf
      refine G_iald dX8_findTrade_37 rfl ht4 ?_
      refine G_if_le 47 dX8_findTrade_38 (by decide) (fun h5 => ?_) (fun h5 => ?_)
      · replace hf := ob_t h5 hf
        refine G_iconst 0 dX8_findTrade_47 (by decide) ?_
        refine GG.sb (lv2 := [some (.ref 0), some (.int v1), none, some (.int v3), none, none]) ?_ (lvS_v rfl (lvS_v rfl (lvS_n (lvS_v rfl (lvS_n (lvS_n (lvS_e)))))))
        exact g_X8_findTrade_48 ih hf
      · replace hf := ob_f h5 hf
        refine G_iconst 1 dX8_findTrade_41 (by decide) ?_
        refine G_iload_n dX8_findTrade_42 rfl rfl ?_
        refine G_ishl dX8_findTrade_43 ?_
        refine G_goto 48 dX8_findTrade_44 (by decide) ?_
        refine GG.sb (lv2 := [some (.ref 0), some (.int v1), none, some (.int v3), none, none]) ?_ (lvS_v rfl (lvS_v rfl (lvS_n (lvS_v rfl (lvS_n (lvS_n (lvS_e)))))))
        exact g_X8_findTrade_48 ih hf
def f_X8_findTrade (N : Nat) (c_askers : Int32) (c_told : Nat → Int32) (c_wish : Nat → Int32) (c_found : Nat → Int32) (c_points : Nat → Int32) (c_served : Nat → Int32) (a1 : Int32) : Option ((Nat → Int32) × (Nat → Int32) × (Nat → Int32)) :=
  f_X8_findTrade_4 N c_askers c_told c_wish N c_found c_points c_served a1 0 0
set_option maxHeartbeats 4000000 in
set_option maxRecDepth 100000 in
theorem c_X8_findTrade {N : Nat} {c_askers : Int32} {c_told : Nat → Int32} {c_wish : Nat → Int32} {c_found : Nat → Int32} {c_points : Nat → Int32} {c_served : Nat → Int32} {u_places : Int32} {u_above : Int64} {u_below : Int64} {u_full : Int32} {u_firsts : Int32} {u_freed : Int32} {u_whole : Int64} {a1 : Int32} {res : (Nat → Int32) × (Nat → Int32) × (Nat → Int32)} (hf : f_X8_findTrade N c_askers c_told c_wish c_found c_points c_served a1 = some res) : Con mu_X8_findTrade [.ref 0, .int a1] (w_X8_findTrade c_askers c_found c_points c_served c_told c_wish u_places u_above u_below u_full u_firsts u_freed u_whole) (none) (w_X8_findTrade c_askers res.1 res.2.1 res.2.2 c_told c_wish u_places u_above u_below u_full u_firsts u_freed u_whole) := by
  refine Con.mk (show plainName RX8 = true by decide +kernel) (leb rfl) (fun κ ω A ad => ?_)
  change GG mu_X8_findTrade κ ω A (QR κ ω A ad (none) (w_X8_findTrade c_askers res.1 res.2.1 res.2.2 c_told c_wish u_places u_above u_below u_full u_firsts u_freed u_whole)) ad 0 0 0 (w_X8_findTrade c_askers c_found c_points c_served c_told c_wish u_places u_above u_below u_full u_firsts u_freed u_whole) [some (.ref 0), some (.int a1), none, none, none, none] []
  refine G_iconst 0 dX8_findTrade_0 (by decide) ?_
  refine G_istore_n dX8_findTrade_1 rfl (ltb rfl) ?_
  change GG _ _ _ _ _ _ _ _ _ _ [some (.ref 0), some (.int a1), some (.int 0), none, none, none] _
  refine G_iconst 0 dX8_findTrade_2 (by decide) ?_
  refine G_istore_n dX8_findTrade_3 rfl (ltb rfl) ?_
  change GG _ _ _ _ _ _ _ _ _ _ [some (.ref 0), some (.int a1), some (.int 0), some (.int 0), none, none] _
  exact g_X8_findTrade_4 N hf
set_option maxRecDepth 20000 in
theorem dX8_become_0 : decode cX8_become 0 = .ok (.iload_n 1, 1) := by decide +kernel
set_option maxRecDepth 20000 in
theorem dX8_become_1 : decode cX8_become 1 = .ok (.invokestatic 127, 3) := by decide +kernel
set_option maxRecDepth 20000 in
theorem dX8_become_4 : decode cX8_become 4 = .ok (.ifCond .eq 13, 3) := by decide +kernel
set_option maxRecDepth 20000 in
theorem dX8_become_7 : decode cX8_become 7 = .ok (.iload_n 2, 1) := by decide +kernel
set_option maxRecDepth 20000 in
theorem dX8_become_8 : decode cX8_become 8 = .ok (.iconst 0, 1) := by decide +kernel
set_option maxRecDepth 20000 in
theorem dX8_become_9 : decode cX8_become 9 = .ok (.bipush 9, 2) := by decide +kernel
set_option maxRecDepth 20000 in
theorem dX8_become_11 : decode cX8_become 11 = .ok (.invokestatic 93, 3) := by decide +kernel
set_option maxRecDepth 20000 in
theorem dX8_become_14 : decode cX8_become 14 = .ok (.ifCond .ne 6, 3) := by decide +kernel
set_option maxRecDepth 20000 in
theorem dX8_become_17 : decode cX8_become 17 = .ok (.bipush (-2), 2) := by decide +kernel
set_option maxRecDepth 20000 in
theorem dX8_become_19 : decode cX8_become 19 = .ok (.ireturn, 1) := by decide +kernel
set_option maxRecDepth 20000 in
theorem dX8_become_20 : decode cX8_become 20 = .ok (.iload_n 2, 1) := by decide +kernel
set_option maxRecDepth 20000 in
theorem dX8_become_21 : decode cX8_become 21 = .ok (.iconst 4, 1) := by decide +kernel
set_option maxRecDepth 20000 in
theorem dX8_become_22 : decode cX8_become 22 = .ok (.if_icmp .ge 43, 3) := by decide +kernel
set_option maxRecDepth 20000 in
theorem dX8_become_25 : decode cX8_become 25 = .ok (.iconst 0, 1) := by decide +kernel
set_option maxRecDepth 20000 in
theorem dX8_become_26 : decode cX8_become 26 = .ok (.istore_n 3, 1) := by decide +kernel
set_option maxRecDepth 20000 in
theorem dX8_become_27 : decode cX8_become 27 = .ok (.iload_n 3, 1) := by decide +kernel
set_option maxRecDepth 20000 in
theorem dX8_become_28 : decode cX8_become 28 = .ok (.aload_n 0, 1) := by decide +kernel
set_option maxRecDepth 20000 in
theorem dX8_become_29 : decode cX8_become 29 = .ok (.getfield 89, 3) := by decide +kernel
set_option maxRecDepth 20000 in
theorem dX8_become_32 : decode cX8_become 32 = .ok (.if_icmp .ge 31, 3) := by decide +kernel
set_option maxRecDepth 20000 in
theorem dX8_become_35 : decode cX8_become 35 = .ok (.aload_n 0, 1) := by decide +kernel
set_option maxRecDepth 20000 in
theorem dX8_become_36 : decode cX8_become 36 = .ok (.getfield 16, 3) := by decide +kernel
set_option maxRecDepth 20000 in
theorem dX8_become_39 : decode cX8_become 39 = .ok (.bipush 8, 2) := by decide +kernel
set_option maxRecDepth 20000 in
theorem dX8_become_41 : decode cX8_become 41 = .ok (.iload_n 1, 1) := by decide +kernel
set_option maxRecDepth 20000 in
theorem dX8_become_42 : decode cX8_become 42 = .ok (.imul, 1) := by decide +kernel
set_option maxRecDepth 20000 in
theorem dX8_become_43 : decode cX8_become 43 = .ok (.iload_n 3, 1) := by decide +kernel
set_option maxRecDepth 20000 in
theorem dX8_become_44 : decode cX8_become 44 = .ok (.iadd, 1) := by decide +kernel
set_option maxRecDepth 20000 in
theorem dX8_become_45 : decode cX8_become 45 = .ok (.aload_n 0, 1) := by decide +kernel
set_option maxRecDepth 20000 in
theorem dX8_become_46 : decode cX8_become 46 = .ok (.getfield 16, 3) := by decide +kernel
set_option maxRecDepth 20000 in
theorem dX8_become_49 : decode cX8_become 49 = .ok (.bipush 8, 2) := by decide +kernel
set_option maxRecDepth 20000 in
theorem dX8_become_51 : decode cX8_become 51 = .ok (.iload_n 2, 1) := by decide +kernel
set_option maxRecDepth 20000 in
theorem dX8_become_52 : decode cX8_become 52 = .ok (.imul, 1) := by decide +kernel
set_option maxRecDepth 20000 in
theorem dX8_become_53 : decode cX8_become 53 = .ok (.iload_n 3, 1) := by decide +kernel
set_option maxRecDepth 20000 in
theorem dX8_become_54 : decode cX8_become 54 = .ok (.iadd, 1) := by decide +kernel
set_option maxRecDepth 20000 in
theorem dX8_become_55 : decode cX8_become 55 = .ok (.iaload, 1) := by decide +kernel
set_option maxRecDepth 20000 in
theorem dX8_become_56 : decode cX8_become 56 = .ok (.iastore, 1) := by decide +kernel
set_option maxRecDepth 20000 in
theorem dX8_become_57 : decode cX8_become 57 = .ok (.iinc 3 1, 3) := by decide +kernel
set_option maxRecDepth 20000 in
theorem dX8_become_60 : decode cX8_become 60 = .ok (.goto (-33), 3) := by decide +kernel
set_option maxRecDepth 20000 in
theorem dX8_become_63 : decode cX8_become 63 = .ok (.iconst 1, 1) := by decide +kernel
set_option maxRecDepth 20000 in
theorem dX8_become_64 : decode cX8_become 64 = .ok (.ireturn, 1) := by decide +kernel
set_option maxRecDepth 20000 in
theorem dX8_become_65 : decode cX8_become 65 = .ok (.iload_n 2, 1) := by decide +kernel
set_option maxRecDepth 20000 in
theorem dX8_become_66 : decode cX8_become 66 = .ok (.bipush 7, 2) := by decide +kernel
set_option maxRecDepth 20000 in
theorem dX8_become_68 : decode cX8_become 68 = .ok (.if_icmp .ge 11, 3) := by decide +kernel
set_option maxRecDepth 20000 in
theorem dX8_become_71 : decode cX8_become 71 = .ok (.aload_n 0, 1) := by decide +kernel
set_option maxRecDepth 20000 in
theorem dX8_become_72 : decode cX8_become 72 = .ok (.iload_n 2, 1) := by decide +kernel
set_option maxRecDepth 20000 in
theorem dX8_become_73 : decode cX8_become 73 = .ok (.invokevirtual 150, 3) := by decide +kernel
set_option maxRecDepth 20000 in
theorem dX8_become_76 : decode cX8_become 76 = .ok (.goto 34, 3) := by decide +kernel
set_option maxRecDepth 20000 in
theorem dX8_become_79 : decode cX8_become 79 = .ok (.iload_n 2, 1) := by decide +kernel
set_option maxRecDepth 20000 in
theorem dX8_become_80 : decode cX8_become 80 = .ok (.bipush 9, 2) := by decide +kernel
set_option maxRecDepth 20000 in
theorem dX8_become_82 : decode cX8_become 82 = .ok (.if_icmp .ge 23, 3) := by decide +kernel
set_option maxRecDepth 20000 in
theorem dX8_become_85 : decode cX8_become 85 = .ok (.aload_n 0, 1) := by decide +kernel
set_option maxRecDepth 20000 in
theorem dX8_become_86 : decode cX8_become 86 = .ok (.iload_n 1, 1) := by decide +kernel
set_option maxRecDepth 20000 in
theorem dX8_become_87 : decode cX8_become 87 = .ok (.iload_n 2, 1) := by decide +kernel
set_option maxRecDepth 20000 in
theorem dX8_become_88 : decode cX8_become 88 = .ok (.bipush 8, 2) := by decide +kernel
set_option maxRecDepth 20000 in
theorem dX8_become_90 : decode cX8_become 90 = .ok (.if_icmp .ne 7, 3) := by decide +kernel
set_option maxRecDepth 20000 in
theorem dX8_become_93 : decode cX8_become 93 = .ok (.iconst 1, 1) := by decide +kernel
set_option maxRecDepth 20000 in
theorem dX8_become_94 : decode cX8_become 94 = .ok (.goto 4, 3) := by decide +kernel
set_option maxRecDepth 20000 in
theorem dX8_become_97 : decode cX8_become 97 = .ok (.iconst 0, 1) := by decide +kernel
set_option maxRecDepth 20000 in
theorem dX8_become_98 : decode cX8_become 98 = .ok (.invokevirtual 154, 3) := by decide +kernel
set_option maxRecDepth 20000 in
theorem dX8_become_101 : decode cX8_become 101 = .ok (.pop, 1) := by decide +kernel
set_option maxRecDepth 20000 in
theorem dX8_become_102 : decode cX8_become 102 = .ok (.goto 8, 3) := by decide +kernel
set_option maxRecDepth 20000 in
theorem dX8_become_105 : decode cX8_become 105 = .ok (.aload_n 0, 1) := by decide +kernel
set_option maxRecDepth 20000 in
theorem dX8_become_106 : decode cX8_become 106 = .ok (.iload_n 1, 1) := by decide +kernel
set_option maxRecDepth 20000 in
theorem dX8_become_107 : decode cX8_become 107 = .ok (.invokevirtual 158, 3) := by decide +kernel
set_option maxRecDepth 20000 in
theorem dX8_become_110 : decode cX8_become 110 = .ok (.iconst 0, 1) := by decide +kernel
set_option maxRecDepth 20000 in
theorem dX8_become_111 : decode cX8_become 111 = .ok (.istore_n 3, 1) := by decide +kernel
set_option maxRecDepth 20000 in
theorem dX8_become_112 : decode cX8_become 112 = .ok (.iload_n 3, 1) := by decide +kernel
set_option maxRecDepth 20000 in
theorem dX8_become_113 : decode cX8_become 113 = .ok (.aload_n 0, 1) := by decide +kernel
set_option maxRecDepth 20000 in
theorem dX8_become_114 : decode cX8_become 114 = .ok (.getfield 89, 3) := by decide +kernel
set_option maxRecDepth 20000 in
theorem dX8_become_117 : decode cX8_become 117 = .ok (.if_icmp .ge 26, 3) := by decide +kernel
set_option maxRecDepth 20000 in
theorem dX8_become_120 : decode cX8_become 120 = .ok (.aload_n 0, 1) := by decide +kernel
set_option maxRecDepth 20000 in
theorem dX8_become_121 : decode cX8_become 121 = .ok (.getfield 16, 3) := by decide +kernel
set_option maxRecDepth 20000 in
theorem dX8_become_124 : decode cX8_become 124 = .ok (.bipush 8, 2) := by decide +kernel
set_option maxRecDepth 20000 in
theorem dX8_become_126 : decode cX8_become 126 = .ok (.iload_n 1, 1) := by decide +kernel
set_option maxRecDepth 20000 in
theorem dX8_become_127 : decode cX8_become 127 = .ok (.imul, 1) := by decide +kernel
set_option maxRecDepth 20000 in
theorem dX8_become_128 : decode cX8_become 128 = .ok (.iload_n 3, 1) := by decide +kernel
set_option maxRecDepth 20000 in
theorem dX8_become_129 : decode cX8_become 129 = .ok (.iadd, 1) := by decide +kernel
set_option maxRecDepth 20000 in
theorem dX8_become_130 : decode cX8_become 130 = .ok (.aload_n 0, 1) := by decide +kernel
set_option maxRecDepth 20000 in
theorem dX8_become_131 : decode cX8_become 131 = .ok (.getfield 27, 3) := by decide +kernel
set_option maxRecDepth 20000 in
theorem dX8_become_134 : decode cX8_become 134 = .ok (.iload_n 3, 1) := by decide +kernel
set_option maxRecDepth 20000 in
theorem dX8_become_135 : decode cX8_become 135 = .ok (.iaload, 1) := by decide +kernel
set_option maxRecDepth 20000 in
theorem dX8_become_136 : decode cX8_become 136 = .ok (.iastore, 1) := by decide +kernel
set_option maxRecDepth 20000 in
theorem dX8_become_137 : decode cX8_become 137 = .ok (.iinc 3 1, 3) := by decide +kernel
set_option maxRecDepth 20000 in
theorem dX8_become_140 : decode cX8_become 140 = .ok (.goto (-28), 3) := by decide +kernel
set_option maxRecDepth 20000 in
theorem dX8_become_143 : decode cX8_become 143 = .ok (.iconst 1, 1) := by decide +kernel
set_option maxRecDepth 20000 in
theorem dX8_become_144 : decode cX8_become 144 = .ok (.ireturn, 1) := by decide +kernel
def f_X8_become_112 (N : Nat) (c_askers : Int32) (c_places : Int32) (c_seats : Nat → Int32) (c_wish : Nat → Int32) : Nat → Int32 → (Nat → Int64) → (Nat → Int32) → (Nat → Int64) → (Nat → Int32) → (Nat → Int32) → (Nat → Int32) → (Nat → Int32) → Int32 → Int32 → Option (Int32 × Int32 × (Nat → Int64) × (Nat → Int32) × (Nat → Int64) × (Nat → Int32) × (Nat → Int32) × (Nat → Int32) × (Nat → Int32))
  | 0, _, _, _, _, _, _, _, _, _, _ => none
  | n + 1, c_full, c_cost, c_found, c_least, c_points, c_served, c_told, c_weight, v1, v3 =>
    (if c_askers ≤ v3 then
      some (1, c_full, c_cost, c_found, c_least, c_points, c_served, c_told, c_weight)
    else
      (rdI 8 c_found v3).bind fun t2 =>
      (wrI 32 c_told ((8 * v1) + v3) t2).bind fun t3 =>
      f_X8_become_112 N c_askers c_places c_seats c_wish n c_full c_cost c_found c_least c_points c_served t3 c_weight v1 (v3 + 1))
set_option maxHeartbeats 4000000 in
set_option maxRecDepth 100000 in
theorem g_X8_become_112 {κ : KC} {ω : KW} {A : Nat → Prop} {ad : Nat → Nat} {u_above : Int64} {u_below : Int64} {u_firsts : Int32} {u_freed : Int32} {u_whole : Int64} {N : Nat} {c_askers : Int32} {c_places : Int32} {c_seats : Nat → Int32} {c_wish : Nat → Int32}  {res : Int32 × Int32 × (Nat → Int64) × (Nat → Int32) × (Nat → Int64) × (Nat → Int32) × (Nat → Int32) × (Nat → Int32) × (Nat → Int32)} : ∀ (n : Nat) {c_full : Int32} {c_cost : Nat → Int64} {c_found : Nat → Int32} {c_least : Nat → Int64} {c_points : Nat → Int32} {c_served : Nat → Int32} {c_told : Nat → Int32} {c_weight : Nat → Int32} {v1 : Int32} {v3 : Int32}, f_X8_become_112 N c_askers c_places c_seats c_wish n c_full c_cost c_found c_least c_points c_served c_told c_weight v1 v3 = some res → GG mu_X8_become κ ω A (QR κ ω A ad (some (.int res.1)) (w_X8_become c_askers c_places res.2.1 res.2.2.1 res.2.2.2.1 res.2.2.2.2.1 res.2.2.2.2.2.1 c_seats res.2.2.2.2.2.2.1 res.2.2.2.2.2.2.2.1 res.2.2.2.2.2.2.2.2 c_wish u_above u_below u_firsts u_freed u_whole)) ad 0 0 112 (w_X8_become c_askers c_places c_full c_cost c_found c_least c_points c_seats c_served c_told c_weight c_wish u_above u_below u_firsts u_freed u_whole) [some (.ref 0), some (.int v1), none, some (.int v3)] [] := by
  intro n
  induction n with
  | zero => intro c_full c_cost c_found c_least c_points c_served c_told c_weight v1 v3 hf; exact ob_0 hf
  | succ n ih =>
    intro c_full c_cost c_found c_least c_points c_served c_told c_weight v1 v3 hf
    refine G_iload_n dX8_become_112 rfl rfl ?_
    refine G_aload_n dX8_become_113 rfl rfl ?_
    refine G_get (v := .int c_askers) F_X8_89 dX8_become_114 rfl rfl ?_
    refine G_icmp_ge 143 dX8_become_117 (by decide) (fun h1 => ?_) (fun h1 => ?_)
    · replace hf := ob_t h1 hf
      refine G_iconst 1 dX8_become_143 (by decide) ?_
      obtain rfl := os hf
      exact G_ireturn dX8_become_144 rfl
    · replace hf := ob_f h1 hf
      refine G_aload_n dX8_become_120 rfl rfl ?_
      refine G_get (v := .ref 7) F_X8_16 dX8_become_121 rfl rfl ?_
      refine G_bipush 8 dX8_become_124 (by decide) ?_
      refine G_iload_n dX8_become_126 rfl rfl ?_
      refine G_imul dX8_become_127 ?_
      refine G_iload_n dX8_become_128 rfl rfl ?_
      refine G_iadd dX8_become_129 ?_
      refine G_aload_n dX8_become_130 rfl rfl ?_
      refine G_get (v := .ref 2) F_X8_27 dX8_become_131 rfl rfl ?_
      refine G_iload_n dX8_become_134 rfl rfl ?_
      obtain ⟨t2, ht2, hf⟩ := ob hf
      refine G_iald dX8_become_135 rfl ht2 ?_
      obtain ⟨t3, ht3, hf⟩ := ob hf
      refine G_iast (w2 := (w_X8_become c_askers c_places c_full c_cost c_found c_least c_points c_seats c_served t3 c_weight c_wish u_above u_below u_firsts u_freed u_whole)) dX8_become_136 rfl ht3 rfl ?_
      refine G_iinc 1 dX8_become_137 (by decide) rfl (ltb rfl) ?_
      change GG _ _ _ _ _ _ _ _ _ _ [some (.ref 0), some (.int v1), none, some (.int (v3 + 1))] _
      refine G_goto 112 dX8_become_140 (by decide) ?_
      exact ih hf
def f_X8_become_110 (N : Nat) (c_askers : Int32) (c_places : Int32) (c_seats : Nat → Int32) (c_wish : Nat → Int32) (c_full : Int32) (c_cost : Nat → Int64) (c_found : Nat → Int32) (c_least : Nat → Int64) (c_points : Nat → Int32) (c_served : Nat → Int32) (c_told : Nat → Int32) (c_weight : Nat → Int32) (v1 : Int32) : Option (Int32 × Int32 × (Nat → Int64) × (Nat → Int32) × (Nat → Int64) × (Nat → Int32) × (Nat → Int32) × (Nat → Int32) × (Nat → Int32)) :=
    f_X8_become_112 N c_askers c_places c_seats c_wish N c_full c_cost c_found c_least c_points c_served c_told c_weight v1 0
set_option maxHeartbeats 4000000 in
set_option maxRecDepth 100000 in
theorem g_X8_become_110 {κ : KC} {ω : KW} {A : Nat → Prop} {ad : Nat → Nat} {u_above : Int64} {u_below : Int64} {u_firsts : Int32} {u_freed : Int32} {u_whole : Int64} {N : Nat} {c_askers : Int32} {c_places : Int32} {c_seats : Nat → Int32} {c_wish : Nat → Int32}  {res : Int32 × Int32 × (Nat → Int64) × (Nat → Int32) × (Nat → Int64) × (Nat → Int32) × (Nat → Int32) × (Nat → Int32) × (Nat → Int32)} {c_full : Int32} {c_cost : Nat → Int64} {c_found : Nat → Int32} {c_least : Nat → Int64} {c_points : Nat → Int32} {c_served : Nat → Int32} {c_told : Nat → Int32} {c_weight : Nat → Int32} {v1 : Int32} (hf : f_X8_become_110 N c_askers c_places c_seats c_wish c_full c_cost c_found c_least c_points c_served c_told c_weight v1 = some res) : GG mu_X8_become κ ω A (QR κ ω A ad (some (.int res.1)) (w_X8_become c_askers c_places res.2.1 res.2.2.1 res.2.2.2.1 res.2.2.2.2.1 res.2.2.2.2.2.1 c_seats res.2.2.2.2.2.2.1 res.2.2.2.2.2.2.2.1 res.2.2.2.2.2.2.2.2 c_wish u_above u_below u_firsts u_freed u_whole)) ad 0 0 110 (w_X8_become c_askers c_places c_full c_cost c_found c_least c_points c_seats c_served c_told c_weight c_wish u_above u_below u_firsts u_freed u_whole) [some (.ref 0), some (.int v1), none, none] [] := by
  refine G_iconst 0 dX8_become_110 (by decide) ?_
  refine G_istore_n dX8_become_111 rfl (ltb rfl) ?_
  change GG _ _ _ _ _ _ _ _ _ _ [some (.ref 0), some (.int v1), none, some (.int 0)] _
  exact g_X8_become_112 N hf
def f_X8_become_98 (N : Nat) (c_askers : Int32) (c_places : Int32) (c_seats : Nat → Int32) (c_wish : Nat → Int32) (c_full : Int32) (c_cost : Nat → Int64) (c_found : Nat → Int32) (c_least : Nat → Int64) (c_points : Nat → Int32) (c_served : Nat → Int32) (c_told : Nat → Int32) (c_weight : Nat → Int32) (v1 : Int32) (s1 : Int32) (s2 : Int32) : Option (Int32 × Int32 × (Nat → Int64) × (Nat → Int32) × (Nat → Int64) × (Nat → Int32) × (Nat → Int32) × (Nat → Int32) × (Nat → Int32)) :=
    (f_X8_findBeater N c_askers c_places c_seats c_told c_wish c_full c_cost c_found c_least c_weight s1 s2).bind fun (r1, o2, o3, o4, o5, o6) =>
    f_X8_become_110 N c_askers c_places c_seats c_wish o2 o3 o4 o5 c_points c_served c_told o6 v1
set_option maxHeartbeats 4000000 in
set_option maxRecDepth 100000 in
theorem g_X8_become_98 {κ : KC} {ω : KW} {A : Nat → Prop} {ad : Nat → Nat} {u_above : Int64} {u_below : Int64} {u_firsts : Int32} {u_freed : Int32} {u_whole : Int64} {N : Nat} {c_askers : Int32} {c_places : Int32} {c_seats : Nat → Int32} {c_wish : Nat → Int32}  {res : Int32 × Int32 × (Nat → Int64) × (Nat → Int32) × (Nat → Int64) × (Nat → Int32) × (Nat → Int32) × (Nat → Int32) × (Nat → Int32)} {c_full : Int32} {c_cost : Nat → Int64} {c_found : Nat → Int32} {c_least : Nat → Int64} {c_points : Nat → Int32} {c_served : Nat → Int32} {c_told : Nat → Int32} {c_weight : Nat → Int32} {v1 : Int32} {s1 : Int32} {s2 : Int32} (hf : f_X8_become_98 N c_askers c_places c_seats c_wish c_full c_cost c_found c_least c_points c_served c_told c_weight v1 s1 s2 = some res) : GG mu_X8_become κ ω A (QR κ ω A ad (some (.int res.1)) (w_X8_become c_askers c_places res.2.1 res.2.2.1 res.2.2.2.1 res.2.2.2.2.1 res.2.2.2.2.2.1 c_seats res.2.2.2.2.2.2.1 res.2.2.2.2.2.2.2.1 res.2.2.2.2.2.2.2.2 c_wish u_above u_below u_firsts u_freed u_whole)) ad 0 0 98 (w_X8_become c_askers c_places c_full c_cost c_found c_least c_points c_seats c_served c_told c_weight c_wish u_above u_below u_firsts u_freed u_whole) [some (.ref 0), some (.int v1), none, none] [.int s2, .int s1, .ref 0] := by
  obtain ⟨⟨r1, o2, o3, o4, o5, o6⟩, hc7, hf⟩ := ob hf
  refine G_callV (μ2 := mu_X8_findBeater) (As := [.int s1, .int s2]) (w2 := (w_X8_become c_askers c_places o2 o3 o4 o5 c_points c_seats c_served c_told o6 c_wish u_above u_below u_firsts u_freed u_whole)) (wc := (w_X8_findBeater c_askers c_places c_full c_cost c_found c_least c_seats c_told c_weight c_wish u_above u_below u_firsts u_freed u_whole)) (wc2 := (w_X8_findBeater c_askers c_places o2 o3 o4 o5 c_seats c_told o6 c_wish u_above u_below u_firsts u_freed u_whole)) (rest := []) (rv := [.int r1]) [0, 1, 2, 3, 5, 7, 8, 9] [1000, 1001, 1002, 1003, 1004, 1005, 6, 4, 1006, 1007, 1008, 1009, 1010, 1011] [4, 6] [2, 3, 4, 5, 0, 6, 1, 7, 8, 9] (c_X8_findBeater hc7) cw_X8_findBeater m_X8_154 dX8_become_98 rfl ⟨leb rfl, leb rfl⟩ ⟨rfl, rfl⟩ rfl ⟨_, rfl, rfl⟩ (Fit.mk rfl rfl rfl) rfl (leb rfl) (ROsub.nil rfl rfl) rfl ?_
  change GG _ _ _ _ _ _ _ _ _ (w_X8_become c_askers c_places o2 o3 o4 o5 c_points c_seats c_served c_told o6 c_wish u_above u_below u_firsts u_freed u_whole) [some (.ref 0), some (.int v1), none, none] [.int r1]
  refine G_pop dX8_become_101 rfl ?_
  refine G_goto 110 dX8_become_102 (by decide) ?_
  exact g_X8_become_110 hf
def f_X8_become_27 (N : Nat) (c_askers : Int32) (c_places : Int32) (c_seats : Nat → Int32) (c_wish : Nat → Int32) : Nat → Int32 → (Nat → Int64) → (Nat → Int32) → (Nat → Int64) → (Nat → Int32) → (Nat → Int32) → (Nat → Int32) → (Nat → Int32) → Int32 → Int32 → Int32 → Option (Int32 × Int32 × (Nat → Int64) × (Nat → Int32) × (Nat → Int64) × (Nat → Int32) × (Nat → Int32) × (Nat → Int32) × (Nat → Int32))
  | 0, _, _, _, _, _, _, _, _, _, _, _ => none
  | n + 1, c_full, c_cost, c_found, c_least, c_points, c_served, c_told, c_weight, v1, v2, v3 =>
    (if c_askers ≤ v3 then
      some (1, c_full, c_cost, c_found, c_least, c_points, c_served, c_told, c_weight)
    else
      (rdI 32 c_told ((8 * v2) + v3)).bind fun t2 =>
      (wrI 32 c_told ((8 * v1) + v3) t2).bind fun t3 =>
      f_X8_become_27 N c_askers c_places c_seats c_wish n c_full c_cost c_found c_least c_points c_served t3 c_weight v1 v2 (v3 + 1))
set_option maxHeartbeats 4000000 in
set_option maxRecDepth 100000 in
theorem g_X8_become_27 {κ : KC} {ω : KW} {A : Nat → Prop} {ad : Nat → Nat} {u_above : Int64} {u_below : Int64} {u_firsts : Int32} {u_freed : Int32} {u_whole : Int64} {N : Nat} {c_askers : Int32} {c_places : Int32} {c_seats : Nat → Int32} {c_wish : Nat → Int32}  {res : Int32 × Int32 × (Nat → Int64) × (Nat → Int32) × (Nat → Int64) × (Nat → Int32) × (Nat → Int32) × (Nat → Int32) × (Nat → Int32)} : ∀ (n : Nat) {c_full : Int32} {c_cost : Nat → Int64} {c_found : Nat → Int32} {c_least : Nat → Int64} {c_points : Nat → Int32} {c_served : Nat → Int32} {c_told : Nat → Int32} {c_weight : Nat → Int32} {v1 : Int32} {v2 : Int32} {v3 : Int32}, f_X8_become_27 N c_askers c_places c_seats c_wish n c_full c_cost c_found c_least c_points c_served c_told c_weight v1 v2 v3 = some res → GG mu_X8_become κ ω A (QR κ ω A ad (some (.int res.1)) (w_X8_become c_askers c_places res.2.1 res.2.2.1 res.2.2.2.1 res.2.2.2.2.1 res.2.2.2.2.2.1 c_seats res.2.2.2.2.2.2.1 res.2.2.2.2.2.2.2.1 res.2.2.2.2.2.2.2.2 c_wish u_above u_below u_firsts u_freed u_whole)) ad 0 0 27 (w_X8_become c_askers c_places c_full c_cost c_found c_least c_points c_seats c_served c_told c_weight c_wish u_above u_below u_firsts u_freed u_whole) [some (.ref 0), some (.int v1), some (.int v2), some (.int v3)] [] := by
  intro n
  induction n with
  | zero => intro c_full c_cost c_found c_least c_points c_served c_told c_weight v1 v2 v3 hf; exact ob_0 hf
  | succ n ih =>
    intro c_full c_cost c_found c_least c_points c_served c_told c_weight v1 v2 v3 hf
    refine G_iload_n dX8_become_27 rfl rfl ?_
    refine G_aload_n dX8_become_28 rfl rfl ?_
    refine G_get (v := .int c_askers) F_X8_89 dX8_become_29 rfl rfl ?_
    refine G_icmp_ge 63 dX8_become_32 (by decide) (fun h1 => ?_) (fun h1 => ?_)
    · replace hf := ob_t h1 hf
      refine G_iconst 1 dX8_become_63 (by decide) ?_
      obtain rfl := os hf
      exact G_ireturn dX8_become_64 rfl
    · replace hf := ob_f h1 hf
      refine G_aload_n dX8_become_35 rfl rfl ?_
      refine G_get (v := .ref 7) F_X8_16 dX8_become_36 rfl rfl ?_
      refine G_bipush 8 dX8_become_39 (by decide) ?_
      refine G_iload_n dX8_become_41 rfl rfl ?_
      refine G_imul dX8_become_42 ?_
      refine G_iload_n dX8_become_43 rfl rfl ?_
      refine G_iadd dX8_become_44 ?_
      refine G_aload_n dX8_become_45 rfl rfl ?_
      refine G_get (v := .ref 7) F_X8_16 dX8_become_46 rfl rfl ?_
      refine G_bipush 8 dX8_become_49 (by decide) ?_
      refine G_iload_n dX8_become_51 rfl rfl ?_
      refine G_imul dX8_become_52 ?_
      refine G_iload_n dX8_become_53 rfl rfl ?_
      refine G_iadd dX8_become_54 ?_
      obtain ⟨t2, ht2, hf⟩ := ob hf
      refine G_iald dX8_become_55 rfl ht2 ?_
      obtain ⟨t3, ht3, hf⟩ := ob hf
      refine G_iast (w2 := (w_X8_become c_askers c_places c_full c_cost c_found c_least c_points c_seats c_served t3 c_weight c_wish u_above u_below u_firsts u_freed u_whole)) dX8_become_56 rfl ht3 rfl ?_
      refine G_iinc 1 dX8_become_57 (by decide) rfl (ltb rfl) ?_
      change GG _ _ _ _ _ _ _ _ _ _ [some (.ref 0), some (.int v1), some (.int v2), some (.int (v3 + 1))] _
      refine G_goto 27 dX8_become_60 (by decide) ?_
      exact ih hf
def f_X8_become (N : Nat) (c_askers : Int32) (c_places : Int32) (c_seats : Nat → Int32) (c_wish : Nat → Int32) (c_full : Int32) (c_cost : Nat → Int64) (c_found : Nat → Int32) (c_least : Nat → Int64) (c_points : Nat → Int32) (c_served : Nat → Int32) (c_told : Nat → Int32) (c_weight : Nat → Int32) (a1 : Int32) (a2 : Int32) : Option (Int32 × Int32 × (Nat → Int64) × (Nat → Int32) × (Nat → Int64) × (Nat → Int32) × (Nat → Int32) × (Nat → Int32) × (Nat → Int32)) :=
  (f_X8_isTold N a1).bind fun r1 =>
  (if r1 = 0 then
    some ((-2 : Int32), c_full, c_cost, c_found, c_least, c_points, c_served, c_told, c_weight)
  else
    (f_X8_in N a2 0 9).bind fun r4 =>
    (if r4 = 0 then
      some ((-2 : Int32), c_full, c_cost, c_found, c_least, c_points, c_served, c_told, c_weight)
    else
      (if 4 ≤ a2 then
        (if 7 ≤ a2 then
          (if 9 ≤ a2 then
            (f_X8_findTrade N c_askers c_told c_wish c_found c_points c_served a1).bind fun (o10, o11, o12) =>
            f_X8_become_110 N c_askers c_places c_seats c_wish c_full c_cost o10 c_least o11 o12 c_told c_weight a1
          else
            (if a2 = 8 then
              f_X8_become_98 N c_askers c_places c_seats c_wish c_full c_cost c_found c_least c_points c_served c_told c_weight a1 a1 1
            else
              f_X8_become_98 N c_askers c_places c_seats c_wish c_full c_cost c_found c_least c_points c_served c_told c_weight a1 a1 0))
        else
          (f_X8_findBy N c_askers c_places c_seats c_wish c_full c_cost c_found c_least c_weight a2).bind fun (o15, o16, o17, o18, o19) =>
          f_X8_become_110 N c_askers c_places c_seats c_wish o15 o16 o17 o18 c_points c_served c_told o19 a1)
      else
        f_X8_become_27 N c_askers c_places c_seats c_wish N c_full c_cost c_found c_least c_points c_served c_told c_weight a1 a2 0)))
set_option maxHeartbeats 4000000 in
set_option maxRecDepth 100000 in
theorem c_X8_become {N : Nat} {c_askers : Int32} {c_places : Int32} {c_seats : Nat → Int32} {c_wish : Nat → Int32} {c_full : Int32} {c_cost : Nat → Int64} {c_found : Nat → Int32} {c_least : Nat → Int64} {c_points : Nat → Int32} {c_served : Nat → Int32} {c_told : Nat → Int32} {c_weight : Nat → Int32} {u_above : Int64} {u_below : Int64} {u_firsts : Int32} {u_freed : Int32} {u_whole : Int64} {a1 : Int32} {a2 : Int32} {res : Int32 × Int32 × (Nat → Int64) × (Nat → Int32) × (Nat → Int64) × (Nat → Int32) × (Nat → Int32) × (Nat → Int32) × (Nat → Int32)} (hf : f_X8_become N c_askers c_places c_seats c_wish c_full c_cost c_found c_least c_points c_served c_told c_weight a1 a2 = some res) : Con mu_X8_become [.ref 0, .int a1, .int a2] (w_X8_become c_askers c_places c_full c_cost c_found c_least c_points c_seats c_served c_told c_weight c_wish u_above u_below u_firsts u_freed u_whole) (some (.int res.1)) (w_X8_become c_askers c_places res.2.1 res.2.2.1 res.2.2.2.1 res.2.2.2.2.1 res.2.2.2.2.2.1 c_seats res.2.2.2.2.2.2.1 res.2.2.2.2.2.2.2.1 res.2.2.2.2.2.2.2.2 c_wish u_above u_below u_firsts u_freed u_whole) := by
  refine Con.mk (show plainName RX8 = true by decide +kernel) (leb rfl) (fun κ ω A ad => ?_)
  change GG mu_X8_become κ ω A (QR κ ω A ad (some (.int res.1)) (w_X8_become c_askers c_places res.2.1 res.2.2.1 res.2.2.2.1 res.2.2.2.2.1 res.2.2.2.2.2.1 c_seats res.2.2.2.2.2.2.1 res.2.2.2.2.2.2.2.1 res.2.2.2.2.2.2.2.2 c_wish u_above u_below u_firsts u_freed u_whole)) ad 0 0 0 (w_X8_become c_askers c_places c_full c_cost c_found c_least c_points c_seats c_served c_told c_weight c_wish u_above u_below u_firsts u_freed u_whole) [some (.ref 0), some (.int a1), some (.int a2), none] []
  refine G_iload_n dX8_become_0 rfl rfl ?_
  obtain ⟨r1, hc2, hf⟩ := ob hf
  refine G_callS (μ2 := mu_X8_isTold) (As := [.int a1]) (w2 := (w_X8_become c_askers c_places c_full c_cost c_found c_least c_points c_seats c_served c_told c_weight c_wish u_above u_below u_firsts u_freed u_whole)) (wc := []) (wc2 := []) (rest := []) (rv := [.int r1]) [] [] [0, 1, 2, 3, 4, 5, 6, 7, 8, 9] [0, 1, 2, 3, 4, 5, 6, 7, 8, 9] (c_X8_isTold hc2) cw_X8_isTold m_X8_127 rfl dX8_become_1 rfl ⟨leb rfl, leb rfl⟩ ⟨rfl, rfl⟩ (Fit.mk rfl rfl rfl) rfl (leb rfl) (ROsub.nil rfl rfl) rfl ?_
  change GG _ _ _ _ _ _ _ _ _ (w_X8_become c_askers c_places c_full c_cost c_found c_least c_points c_seats c_served c_told c_weight c_wish u_above u_below u_firsts u_freed u_whole) [some (.ref 0), some (.int a1), some (.int a2), none] [.int r1]
  refine G_if_eq 17 dX8_become_4 (by decide) (fun h3 => ?_) (fun h3 => ?_)
  · replace hf := ob_t h3 hf
    refine G_bipush (-2 : Int32) dX8_become_17 (by decide) ?_
    obtain rfl := os hf
    exact G_ireturn dX8_become_19 rfl
  · replace hf := ob_f h3 hf
    refine G_iload_n dX8_become_7 rfl rfl ?_
    refine G_iconst 0 dX8_become_8 (by decide) ?_
    refine G_bipush 9 dX8_become_9 (by decide) ?_
    obtain ⟨r4, hc5, hf⟩ := ob hf
    refine G_callS (μ2 := mu_X8_in) (As := [.int a2, .int 0, .int 9]) (w2 := (w_X8_become c_askers c_places c_full c_cost c_found c_least c_points c_seats c_served c_told c_weight c_wish u_above u_below u_firsts u_freed u_whole)) (wc := []) (wc2 := []) (rest := []) (rv := [.int r4]) [] [] [0, 1, 2, 3, 4, 5, 6, 7, 8, 9] [0, 1, 2, 3, 4, 5, 6, 7, 8, 9] (c_X8_in hc5) cw_X8_in m_X8_93 rfl dX8_become_11 rfl ⟨leb rfl, leb rfl⟩ ⟨rfl, rfl⟩ (Fit.mk rfl rfl rfl) rfl (leb rfl) (ROsub.nil rfl rfl) rfl ?_
    change GG _ _ _ _ _ _ _ _ _ (w_X8_become c_askers c_places c_full c_cost c_found c_least c_points c_seats c_served c_told c_weight c_wish u_above u_below u_firsts u_freed u_whole) [some (.ref 0), some (.int a1), some (.int a2), none] [.int r4]
    refine G_if_ne 20 dX8_become_14 (by decide) (fun h6 => ?_) (fun h6 => ?_)
    · replace hf := ob_f h6 hf
      refine G_iload_n dX8_become_20 rfl rfl ?_
      refine G_iconst 4 dX8_become_21 (by decide) ?_
      refine G_icmp_ge 65 dX8_become_22 (by decide) (fun h7 => ?_) (fun h7 => ?_)
      · replace hf := ob_t h7 hf
        refine G_iload_n dX8_become_65 rfl rfl ?_
        refine G_bipush 7 dX8_become_66 (by decide) ?_
        refine G_icmp_ge 79 dX8_become_68 (by decide) (fun h8 => ?_) (fun h8 => ?_)
        · replace hf := ob_t h8 hf
          refine G_iload_n dX8_become_79 rfl rfl ?_
          refine G_bipush 9 dX8_become_80 (by decide) ?_
          refine G_icmp_ge 105 dX8_become_82 (by decide) (fun h9 => ?_) (fun h9 => ?_)
          · replace hf := ob_t h9 hf
            refine G_aload_n dX8_become_105 rfl rfl ?_
            refine G_iload_n dX8_become_106 rfl rfl ?_
            obtain ⟨⟨o10, o11, o12⟩, hc13, hf⟩ := ob hf
            refine G_callV (μ2 := mu_X8_findTrade) (As := [.int a1]) (w2 := (w_X8_become c_askers c_places c_full c_cost o10 c_least o11 c_seats o12 c_told c_weight c_wish u_above u_below u_firsts u_freed u_whole)) (wc := (w_X8_findTrade c_askers c_found c_points c_served c_told c_wish c_places u_above u_below c_full u_firsts u_freed u_whole)) (wc2 := (w_X8_findTrade c_askers o10 o11 o12 c_told c_wish c_places u_above u_below c_full u_firsts u_freed u_whole)) (rest := []) (rv := []) [0, 2, 4, 6, 7, 9] [5, 8, 1000, 1, 3, 1001, 1002, 1003, 1004, 1005, 1006, 1007, 1008, 1009, 1010, 1011] [1, 3, 5, 8] [4, 0, 5, 1, 6, 2, 7, 8, 3, 9] (c_X8_findTrade hc13) cw_X8_findTrade m_X8_158 dX8_become_107 rfl ⟨leb rfl, leb rfl⟩ ⟨rfl, rfl⟩ rfl ⟨_, rfl, rfl⟩ (Fit.mk rfl rfl rfl) rfl (leb rfl) (ROsub.nil rfl rfl) rfl ?_
            change GG _ _ _ _ _ _ _ _ _ (w_X8_become c_askers c_places c_full c_cost o10 c_least o11 c_seats o12 c_told c_weight c_wish u_above u_below u_firsts u_freed u_whole) [some (.ref 0), some (.int a1), some (.int a2), none] []
            refine GG.sb (lv2 := [some (.ref 0), some (.int a1), none, none]) ?_ (lvS_v rfl (lvS_v rfl (lvS_n (lvS_n (lvS_e)))))
            exact g_X8_become_110 hf
          · replace hf := ob_f h9 hf
            refine G_aload_n dX8_become_85 rfl rfl ?_
            refine G_iload_n dX8_become_86 rfl rfl ?_
            refine G_iload_n dX8_become_87 rfl rfl ?_
            refine G_bipush 8 dX8_become_88 (by decide) ?_
            refine G_icmp_ne 97 dX8_become_90 (by decide) (fun h14 => ?_) (fun h14 => ?_)
            · replace hf := ob_f h14 hf
              refine G_iconst 0 dX8_become_97 (by decide) ?_
              refine GG.sb (lv2 := [some (.ref 0), some (.int a1), none, none]) ?_ (lvS_v rfl (lvS_v rfl (lvS_n (lvS_n (lvS_e)))))
              exact g_X8_become_98 hf
            · replace hf := ob_t h14 hf
              refine G_iconst 1 dX8_become_93 (by decide) ?_
              refine G_goto 98 dX8_become_94 (by decide) ?_
              refine GG.sb (lv2 := [some (.ref 0), some (.int a1), none, none]) ?_ (lvS_v rfl (lvS_v rfl (lvS_n (lvS_n (lvS_e)))))
              exact g_X8_become_98 hf
        · replace hf := ob_f h8 hf
          refine G_aload_n dX8_become_71 rfl rfl ?_
          refine G_iload_n dX8_become_72 rfl rfl ?_
          obtain ⟨⟨o15, o16, o17, o18, o19⟩, hc20, hf⟩ := ob hf
          refine G_callV (μ2 := mu_X8_findBy) (As := [.int a2]) (w2 := (w_X8_become c_askers c_places o15 o16 o17 o18 c_points c_seats c_served c_told o19 c_wish u_above u_below u_firsts u_freed u_whole)) (wc := (w_X8_findBy c_askers c_places c_full c_cost c_found c_least c_seats c_weight c_wish u_above u_below u_firsts u_freed u_whole)) (wc2 := (w_X8_findBy c_askers c_places o15 o16 o17 o18 c_seats o19 c_wish u_above u_below u_firsts u_freed u_whole)) (rest := []) (rv := []) [0, 1, 2, 3, 5, 8, 9] [7, 1000, 1001, 1002, 1003, 1004, 1005, 6, 4, 1006, 1007, 1008, 1009, 1010, 1011] [4, 6, 7] [3, 4, 5, 6, 0, 7, 1, 2, 8, 9] (c_X8_findBy hc20) cw_X8_findBy m_X8_150 dX8_become_73 rfl ⟨leb rfl, leb rfl⟩ ⟨rfl, rfl⟩ rfl ⟨_, rfl, rfl⟩ (Fit.mk rfl rfl rfl) rfl (leb rfl) (ROsub.nil rfl rfl) rfl ?_
          change GG _ _ _ _ _ _ _ _ _ (w_X8_become c_askers c_places o15 o16 o17 o18 c_points c_seats c_served c_told o19 c_wish u_above u_below u_firsts u_freed u_whole) [some (.ref 0), some (.int a1), some (.int a2), none] []
          refine G_goto 110 dX8_become_76 (by decide) ?_
          refine GG.sb (lv2 := [some (.ref 0), some (.int a1), none, none]) ?_ (lvS_v rfl (lvS_v rfl (lvS_n (lvS_n (lvS_e)))))
          exact g_X8_become_110 hf
      · replace hf := ob_f h7 hf
        refine G_iconst 0 dX8_become_25 (by decide) ?_
        refine G_istore_n dX8_become_26 rfl (ltb rfl) ?_
        change GG _ _ _ _ _ _ _ _ _ _ [some (.ref 0), some (.int a1), some (.int a2), some (.int 0)] _
        exact g_X8_become_27 N hf
    · replace hf := ob_t h6 hf
      refine G_bipush (-2 : Int32) dX8_become_17 (by decide) ?_
      obtain rfl := os hf
      exact G_ireturn dX8_become_19 rfl
set_option maxRecDepth 20000 in
theorem dX8_has_0 : decode cX8_has 0 = .ok (.iload_n 1, 1) := by decide +kernel
set_option maxRecDepth 20000 in
theorem dX8_has_1 : decode cX8_has 1 = .ok (.invokestatic 127, 3) := by decide +kernel
set_option maxRecDepth 20000 in
theorem dX8_has_4 : decode cX8_has 4 = .ok (.ifCond .eq 27, 3) := by decide +kernel
set_option maxRecDepth 20000 in
theorem dX8_has_7 : decode cX8_has 7 = .ok (.aload_n 0, 1) := by decide +kernel
set_option maxRecDepth 20000 in
theorem dX8_has_8 : decode cX8_has 8 = .ok (.iload_n 2, 1) := by decide +kernel
set_option maxRecDepth 20000 in
theorem dX8_has_9 : decode cX8_has 9 = .ok (.invokevirtual 108, 3) := by decide +kernel
set_option maxRecDepth 20000 in
theorem dX8_has_12 : decode cX8_has 12 = .ok (.ifCond .eq 19, 3) := by decide +kernel
set_option maxRecDepth 20000 in
theorem dX8_has_15 : decode cX8_has 15 = .ok (.aload_n 0, 1) := by decide +kernel
set_option maxRecDepth 20000 in
theorem dX8_has_16 : decode cX8_has 16 = .ok (.getfield 16, 3) := by decide +kernel
set_option maxRecDepth 20000 in
theorem dX8_has_19 : decode cX8_has 19 = .ok (.bipush 8, 2) := by decide +kernel
set_option maxRecDepth 20000 in
theorem dX8_has_21 : decode cX8_has 21 = .ok (.iload_n 1, 1) := by decide +kernel
set_option maxRecDepth 20000 in
theorem dX8_has_22 : decode cX8_has 22 = .ok (.imul, 1) := by decide +kernel
set_option maxRecDepth 20000 in
theorem dX8_has_23 : decode cX8_has 23 = .ok (.iload_n 2, 1) := by decide +kernel
set_option maxRecDepth 20000 in
theorem dX8_has_24 : decode cX8_has 24 = .ok (.iadd, 1) := by decide +kernel
set_option maxRecDepth 20000 in
theorem dX8_has_25 : decode cX8_has 25 = .ok (.iaload, 1) := by decide +kernel
set_option maxRecDepth 20000 in
theorem dX8_has_26 : decode cX8_has 26 = .ok (.iconst 1, 1) := by decide +kernel
set_option maxRecDepth 20000 in
theorem dX8_has_27 : decode cX8_has 27 = .ok (.isub, 1) := by decide +kernel
set_option maxRecDepth 20000 in
theorem dX8_has_28 : decode cX8_has 28 = .ok (.goto 5, 3) := by decide +kernel
set_option maxRecDepth 20000 in
theorem dX8_has_31 : decode cX8_has 31 = .ok (.bipush (-2), 2) := by decide +kernel
set_option maxRecDepth 20000 in
theorem dX8_has_33 : decode cX8_has 33 = .ok (.ireturn, 1) := by decide +kernel
def f_X8_has (N : Nat) (c_askers : Int32) (c_told : Nat → Int32) (a1 : Int32) (a2 : Int32) : Option (Int32) :=
  (f_X8_isTold N a1).bind fun r1 =>
  (if r1 = 0 then
    some (-2 : Int32)
  else
    (f_X8_isAsker N c_askers a2).bind fun r4 =>
    (if r4 = 0 then
      some (-2 : Int32)
    else
      (rdI 32 c_told ((8 * a1) + a2)).bind fun t7 =>
      some (t7 - 1)))
set_option maxHeartbeats 4000000 in
set_option maxRecDepth 100000 in
theorem c_X8_has {N : Nat} {c_askers : Int32} {c_told : Nat → Int32}  {u_places : Int32} {u_above : Int64} {u_below : Int64} {u_full : Int32} {u_firsts : Int32} {u_freed : Int32} {u_whole : Int64} {a1 : Int32} {a2 : Int32} {res : Int32} (hf : f_X8_has N c_askers c_told a1 a2 = some res) : Con mu_X8_has [.ref 0, .int a1, .int a2] (w_X8_has c_askers c_told u_places u_above u_below u_full u_firsts u_freed u_whole) (some (.int res)) (w_X8_has c_askers c_told u_places u_above u_below u_full u_firsts u_freed u_whole) := by
  refine Con.mk (show plainName RX8 = true by decide +kernel) (leb rfl) (fun κ ω A ad => ?_)
  change GG mu_X8_has κ ω A (QR κ ω A ad (some (.int res)) (w_X8_has c_askers c_told u_places u_above u_below u_full u_firsts u_freed u_whole)) ad 0 0 0 (w_X8_has c_askers c_told u_places u_above u_below u_full u_firsts u_freed u_whole) [some (.ref 0), some (.int a1), some (.int a2)] []
  refine G_iload_n dX8_has_0 rfl rfl ?_
  obtain ⟨r1, hc2, hf⟩ := ob hf
  refine G_callS (μ2 := mu_X8_isTold) (As := [.int a1]) (w2 := (w_X8_has c_askers c_told u_places u_above u_below u_full u_firsts u_freed u_whole)) (wc := []) (wc2 := []) (rest := []) (rv := [.int r1]) [] [] [0, 1] [0, 1] (c_X8_isTold hc2) cw_X8_isTold m_X8_127 rfl dX8_has_1 rfl ⟨leb rfl, leb rfl⟩ ⟨rfl, rfl⟩ (Fit.mk rfl rfl rfl) rfl (leb rfl) (ROsub.nil rfl rfl) rfl ?_
  change GG _ _ _ _ _ _ _ _ _ (w_X8_has c_askers c_told u_places u_above u_below u_full u_firsts u_freed u_whole) [some (.ref 0), some (.int a1), some (.int a2)] [.int r1]
  refine G_if_eq 31 dX8_has_4 (by decide) (fun h3 => ?_) (fun h3 => ?_)
  · replace hf := ob_t h3 hf
    refine G_bipush (-2 : Int32) dX8_has_31 (by decide) ?_
    obtain rfl := os hf
    exact G_ireturn dX8_has_33 rfl
  · replace hf := ob_f h3 hf
    refine G_aload_n dX8_has_7 rfl rfl ?_
    refine G_iload_n dX8_has_8 rfl rfl ?_
    obtain ⟨r4, hc5, hf⟩ := ob hf
    refine G_callV (μ2 := mu_X8_isAsker) (As := [.int a2]) (w2 := (w_X8_has c_askers c_told u_places u_above u_below u_full u_firsts u_freed u_whole)) (wc := (w_X8_isAsker c_askers u_places u_above u_below u_full u_firsts u_freed u_whole)) (wc2 := (w_X8_isAsker c_askers u_places u_above u_below u_full u_firsts u_freed u_whole)) (rest := []) (rv := [.int r4]) [0] [1000, 1001, 1, 1002, 1003, 1004, 1005, 1006, 1007, 1008, 1009, 1010, 1011, 1012, 1013, 1014, 1015, 1016, 1017, 1018, 1019] [1] [1, 0] (c_X8_isAsker hc5) cw_X8_isAsker m_X8_108 dX8_has_9 rfl ⟨leb rfl, leb rfl⟩ ⟨rfl, rfl⟩ rfl ⟨_, rfl, rfl⟩ (Fit.mk rfl rfl rfl) rfl (leb rfl) (ROsub.nil rfl rfl) rfl ?_
    change GG _ _ _ _ _ _ _ _ _ (w_X8_has c_askers c_told u_places u_above u_below u_full u_firsts u_freed u_whole) [some (.ref 0), some (.int a1), some (.int a2)] [.int r4]
    refine G_if_eq 31 dX8_has_12 (by decide) (fun h6 => ?_) (fun h6 => ?_)
    · replace hf := ob_t h6 hf
      refine G_bipush (-2 : Int32) dX8_has_31 (by decide) ?_
      obtain rfl := os hf
      exact G_ireturn dX8_has_33 rfl
    · replace hf := ob_f h6 hf
      refine G_aload_n dX8_has_15 rfl rfl ?_
      refine G_get (v := .ref 1) F_X8_16 dX8_has_16 rfl rfl ?_
      refine G_bipush 8 dX8_has_19 (by decide) ?_
      refine G_iload_n dX8_has_21 rfl rfl ?_
      refine G_imul dX8_has_22 ?_
      refine G_iload_n dX8_has_23 rfl rfl ?_
      refine G_iadd dX8_has_24 ?_
      obtain ⟨t7, ht7, hf⟩ := ob hf
      refine G_iald dX8_has_25 rfl ht7 ?_
      refine G_iconst 1 dX8_has_26 (by decide) ?_
      refine G_isub dX8_has_27 ?_
      refine G_goto 33 dX8_has_28 (by decide) ?_
      obtain rfl := os hf
      exact G_ireturn dX8_has_33 rfl
set_option maxRecDepth 20000 in
theorem dX8_placeOf_0 : decode cX8_placeOf 0 = .ok (.iload_n 1, 1) := by decide +kernel
set_option maxRecDepth 20000 in
theorem dX8_placeOf_1 : decode cX8_placeOf 1 = .ok (.invokestatic 127, 3) := by decide +kernel
set_option maxRecDepth 20000 in
theorem dX8_placeOf_4 : decode cX8_placeOf 4 = .ok (.ifCond .ne 7, 3) := by decide +kernel
set_option maxRecDepth 20000 in
theorem dX8_placeOf_7 : decode cX8_placeOf 7 = .ok (.ldc2_w 161, 3) := by decide +kernel
set_option maxRecDepth 20000 in
theorem dX8_placeOf_10 : decode cX8_placeOf 10 = .ok (.lreturn, 1) := by decide +kernel
set_option maxRecDepth 20000 in
theorem dX8_placeOf_11 : decode cX8_placeOf 11 = .ok (.aload_n 0, 1) := by decide +kernel
set_option maxRecDepth 20000 in
theorem dX8_placeOf_12 : decode cX8_placeOf 12 = .ok (.invokevirtual 124, 3) := by decide +kernel
set_option maxRecDepth 20000 in
theorem dX8_placeOf_15 : decode cX8_placeOf 15 = .ok (.lconst 0, 1) := by decide +kernel
set_option maxRecDepth 20000 in
theorem dX8_placeOf_16 : decode cX8_placeOf 16 = .ok (.lstore_n 2, 1) := by decide +kernel
set_option maxRecDepth 20000 in
theorem dX8_placeOf_17 : decode cX8_placeOf 17 = .ok (.aload_n 0, 1) := by decide +kernel
set_option maxRecDepth 20000 in
theorem dX8_placeOf_18 : decode cX8_placeOf 18 = .ok (.getfield 114, 3) := by decide +kernel
set_option maxRecDepth 20000 in
theorem dX8_placeOf_21 : decode cX8_placeOf 21 = .ok (.istore 4, 2) := by decide +kernel
set_option maxRecDepth 20000 in
theorem dX8_placeOf_23 : decode cX8_placeOf 23 = .ok (.iconst 0, 1) := by decide +kernel
set_option maxRecDepth 20000 in
theorem dX8_placeOf_24 : decode cX8_placeOf 24 = .ok (.istore 5, 2) := by decide +kernel
set_option maxRecDepth 20000 in
theorem dX8_placeOf_26 : decode cX8_placeOf 26 = .ok (.iload 5, 2) := by decide +kernel
set_option maxRecDepth 20000 in
theorem dX8_placeOf_28 : decode cX8_placeOf 28 = .ok (.aload_n 0, 1) := by decide +kernel
set_option maxRecDepth 20000 in
theorem dX8_placeOf_29 : decode cX8_placeOf 29 = .ok (.getfield 89, 3) := by decide +kernel
set_option maxRecDepth 20000 in
theorem dX8_placeOf_32 : decode cX8_placeOf 32 = .ok (.if_icmp .ge 98, 3) := by decide +kernel
set_option maxRecDepth 20000 in
theorem dX8_placeOf_35 : decode cX8_placeOf 35 = .ok (.iconst 0, 1) := by decide +kernel
set_option maxRecDepth 20000 in
theorem dX8_placeOf_36 : decode cX8_placeOf 36 = .ok (.istore 6, 2) := by decide +kernel
set_option maxRecDepth 20000 in
theorem dX8_placeOf_38 : decode cX8_placeOf 38 = .ok (.iload 6, 2) := by decide +kernel
set_option maxRecDepth 20000 in
theorem dX8_placeOf_40 : decode cX8_placeOf 40 = .ok (.aload_n 0, 1) := by decide +kernel
set_option maxRecDepth 20000 in
theorem dX8_placeOf_41 : decode cX8_placeOf 41 = .ok (.getfield 16, 3) := by decide +kernel
set_option maxRecDepth 20000 in
theorem dX8_placeOf_44 : decode cX8_placeOf 44 = .ok (.bipush 8, 2) := by decide +kernel
set_option maxRecDepth 20000 in
theorem dX8_placeOf_46 : decode cX8_placeOf 46 = .ok (.iload_n 1, 1) := by decide +kernel
set_option maxRecDepth 20000 in
theorem dX8_placeOf_47 : decode cX8_placeOf 47 = .ok (.imul, 1) := by decide +kernel
set_option maxRecDepth 20000 in
theorem dX8_placeOf_48 : decode cX8_placeOf 48 = .ok (.iload 5, 2) := by decide +kernel
set_option maxRecDepth 20000 in
theorem dX8_placeOf_50 : decode cX8_placeOf 50 = .ok (.iadd, 1) := by decide +kernel
set_option maxRecDepth 20000 in
theorem dX8_placeOf_51 : decode cX8_placeOf 51 = .ok (.iaload, 1) := by decide +kernel
set_option maxRecDepth 20000 in
theorem dX8_placeOf_52 : decode cX8_placeOf 52 = .ok (.if_icmp .ge 50, 3) := by decide +kernel
set_option maxRecDepth 20000 in
theorem dX8_placeOf_55 : decode cX8_placeOf 55 = .ok (.aload_n 0, 1) := by decide +kernel
set_option maxRecDepth 20000 in
theorem dX8_placeOf_56 : decode cX8_placeOf 56 = .ok (.iload 5, 2) := by decide +kernel
set_option maxRecDepth 20000 in
theorem dX8_placeOf_58 : decode cX8_placeOf 58 = .ok (.iload 6, 2) := by decide +kernel
set_option maxRecDepth 20000 in
theorem dX8_placeOf_60 : decode cX8_placeOf 60 = .ok (.iload 4, 2) := by decide +kernel
set_option maxRecDepth 20000 in
theorem dX8_placeOf_62 : decode cX8_placeOf 62 = .ok (.invokevirtual 120, 3) := by decide +kernel
set_option maxRecDepth 20000 in
theorem dX8_placeOf_65 : decode cX8_placeOf 65 = .ok (.istore 7, 2) := by decide +kernel
set_option maxRecDepth 20000 in
theorem dX8_placeOf_67 : decode cX8_placeOf 67 = .ok (.lload_n 2, 1) := by decide +kernel
set_option maxRecDepth 20000 in
theorem dX8_placeOf_68 : decode cX8_placeOf 68 = .ok (.iload 7, 2) := by decide +kernel
set_option maxRecDepth 20000 in
theorem dX8_placeOf_70 : decode cX8_placeOf 70 = .ok (.iconst (-1), 1) := by decide +kernel
set_option maxRecDepth 20000 in
theorem dX8_placeOf_71 : decode cX8_placeOf 71 = .ok (.if_icmp .ne 7, 3) := by decide +kernel
set_option maxRecDepth 20000 in
theorem dX8_placeOf_74 : decode cX8_placeOf 74 = .ok (.lconst 0, 1) := by decide +kernel
set_option maxRecDepth 20000 in
theorem dX8_placeOf_75 : decode cX8_placeOf 75 = .ok (.goto 19, 3) := by decide +kernel
set_option maxRecDepth 20000 in
theorem dX8_placeOf_78 : decode cX8_placeOf 78 = .ok (.aload_n 0, 1) := by decide +kernel
set_option maxRecDepth 20000 in
theorem dX8_placeOf_79 : decode cX8_placeOf 79 = .ok (.getfield 23, 3) := by decide +kernel
set_option maxRecDepth 20000 in
theorem dX8_placeOf_82 : decode cX8_placeOf 82 = .ok (.sipush 4096, 3) := by decide +kernel
set_option maxRecDepth 20000 in
theorem dX8_placeOf_85 : decode cX8_placeOf 85 = .ok (.iload 5, 2) := by decide +kernel
set_option maxRecDepth 20000 in
theorem dX8_placeOf_87 : decode cX8_placeOf 87 = .ok (.iconst 1, 1) := by decide +kernel
set_option maxRecDepth 20000 in
theorem dX8_placeOf_88 : decode cX8_placeOf 88 = .ok (.iadd, 1) := by decide +kernel
set_option maxRecDepth 20000 in
theorem dX8_placeOf_89 : decode cX8_placeOf 89 = .ok (.imul, 1) := by decide +kernel
set_option maxRecDepth 20000 in
theorem dX8_placeOf_90 : decode cX8_placeOf 90 = .ok (.iload 7, 2) := by decide +kernel
set_option maxRecDepth 20000 in
theorem dX8_placeOf_92 : decode cX8_placeOf 92 = .ok (.iadd, 1) := by decide +kernel
set_option maxRecDepth 20000 in
theorem dX8_placeOf_93 : decode cX8_placeOf 93 = .ok (.laload, 1) := by decide +kernel
set_option maxRecDepth 20000 in
theorem dX8_placeOf_94 : decode cX8_placeOf 94 = .ok (.ladd, 1) := by decide +kernel
set_option maxRecDepth 20000 in
theorem dX8_placeOf_95 : decode cX8_placeOf 95 = .ok (.lstore_n 2, 1) := by decide +kernel
set_option maxRecDepth 20000 in
theorem dX8_placeOf_96 : decode cX8_placeOf 96 = .ok (.iinc 6 1, 3) := by decide +kernel
set_option maxRecDepth 20000 in
theorem dX8_placeOf_99 : decode cX8_placeOf 99 = .ok (.goto (-61), 3) := by decide +kernel
set_option maxRecDepth 20000 in
theorem dX8_placeOf_102 : decode cX8_placeOf 102 = .ok (.aload_n 0, 1) := by decide +kernel
set_option maxRecDepth 20000 in
theorem dX8_placeOf_103 : decode cX8_placeOf 103 = .ok (.iload 5, 2) := by decide +kernel
set_option maxRecDepth 20000 in
theorem dX8_placeOf_105 : decode cX8_placeOf 105 = .ok (.aload_n 0, 1) := by decide +kernel
set_option maxRecDepth 20000 in
theorem dX8_placeOf_106 : decode cX8_placeOf 106 = .ok (.getfield 16, 3) := by decide +kernel
set_option maxRecDepth 20000 in
theorem dX8_placeOf_109 : decode cX8_placeOf 109 = .ok (.bipush 8, 2) := by decide +kernel
set_option maxRecDepth 20000 in
theorem dX8_placeOf_111 : decode cX8_placeOf 111 = .ok (.iload_n 1, 1) := by decide +kernel
set_option maxRecDepth 20000 in
theorem dX8_placeOf_112 : decode cX8_placeOf 112 = .ok (.imul, 1) := by decide +kernel
set_option maxRecDepth 20000 in
theorem dX8_placeOf_113 : decode cX8_placeOf 113 = .ok (.iload 5, 2) := by decide +kernel
set_option maxRecDepth 20000 in
theorem dX8_placeOf_115 : decode cX8_placeOf 115 = .ok (.iadd, 1) := by decide +kernel
set_option maxRecDepth 20000 in
theorem dX8_placeOf_116 : decode cX8_placeOf 116 = .ok (.iaload, 1) := by decide +kernel
set_option maxRecDepth 20000 in
theorem dX8_placeOf_117 : decode cX8_placeOf 117 = .ok (.iload 4, 2) := by decide +kernel
set_option maxRecDepth 20000 in
theorem dX8_placeOf_119 : decode cX8_placeOf 119 = .ok (.invokevirtual 120, 3) := by decide +kernel
set_option maxRecDepth 20000 in
theorem dX8_placeOf_122 : decode cX8_placeOf 122 = .ok (.istore 4, 2) := by decide +kernel
set_option maxRecDepth 20000 in
theorem dX8_placeOf_124 : decode cX8_placeOf 124 = .ok (.iinc 5 1, 3) := by decide +kernel
set_option maxRecDepth 20000 in
theorem dX8_placeOf_127 : decode cX8_placeOf 127 = .ok (.goto (-101), 3) := by decide +kernel
set_option maxRecDepth 20000 in
theorem dX8_placeOf_130 : decode cX8_placeOf 130 = .ok (.lload_n 2, 1) := by decide +kernel
set_option maxRecDepth 20000 in
theorem dX8_placeOf_131 : decode cX8_placeOf 131 = .ok (.lreturn, 1) := by decide +kernel
def f_X8_placeOf_38 (N : Nat) (c_askers : Int32) (c_places : Int32) (c_seats : Nat → Int32) (c_told : Nat → Int32) (c_wish : Nat → Int32) (k26 : Int32 → (Nat → Int64) → (Nat → Int32) → Int32 → Int64 → Int32 → Int32 → Option (Int64 × Int32 × (Nat → Int64) × (Nat → Int32))) : Nat → Int32 → (Nat → Int64) → (Nat → Int32) → Int32 → Int64 → Int32 → Int32 → Int32 → Option (Int64 × Int32 × (Nat → Int64) × (Nat → Int32))
  | 0, _, _, _, _, _, _, _, _ => none
  | n + 1, c_full, c_count, c_weight, v1, v2, v4, v5, v6 =>
    (rdI 32 c_told ((8 * v1) + v5)).bind fun t1 =>
    (if t1 ≤ v6 then
      (rdI 32 c_told ((8 * v1) + v5)).bind fun t3 =>
      (f_X8_takes N c_places c_seats c_weight c_wish v5 t3 v4).bind fun r4 =>
      k26 c_full c_count c_weight v1 v2 r4 (v5 + 1)
    else
      (f_X8_takes N c_places c_seats c_weight c_wish v5 v6 v4).bind fun r6 =>
      (if r6 = (-1 : Int32) then
        f_X8_placeOf_38 N c_askers c_places c_seats c_told c_wish k26 n c_full c_count c_weight v1 (v2 + 0) v4 v5 (v6 + 1)
      else
        (rdL 36864 c_count ((4096 * (v5 + 1)) + r6)).bind fun t9 =>
        f_X8_placeOf_38 N c_askers c_places c_seats c_told c_wish k26 n c_full c_count c_weight v1 (v2 + t9) v4 v5 (v6 + 1)))
set_option maxHeartbeats 4000000 in
set_option maxRecDepth 100000 in
theorem g_X8_placeOf_38 {κ : KC} {ω : KW} {A : Nat → Prop} {ad : Nat → Nat} {u_above : Int64} {u_below : Int64} {u_firsts : Int32} {u_freed : Int32} {u_whole : Int64} {N : Nat} {c_askers : Int32} {c_places : Int32} {c_seats : Nat → Int32} {c_told : Nat → Int32} {c_wish : Nat → Int32}  {k26 : Int32 → (Nat → Int64) → (Nat → Int32) → Int32 → Int64 → Int32 → Int32 → Option (Int64 × Int32 × (Nat → Int64) × (Nat → Int32))} {res : Int64 × Int32 × (Nat → Int64) × (Nat → Int32)} (hk26 : ∀ {c_full : Int32} {c_count : Nat → Int64} {c_weight : Nat → Int32} {v1 : Int32} {v2 : Int64} {v4 : Int32} {v5 : Int32}, k26 c_full c_count c_weight v1 v2 v4 v5 = some res → GG mu_X8_placeOf κ ω A (QR κ ω A ad (some (.long res.1)) (w_X8_placeOf c_askers c_places res.2.1 res.2.2.1 c_seats c_told res.2.2.2 c_wish u_above u_below u_firsts u_freed u_whole)) ad 0 0 26 (w_X8_placeOf c_askers c_places c_full c_count c_seats c_told c_weight c_wish u_above u_below u_firsts u_freed u_whole) [some (.ref 0), some (.int v1), some (.long v2), none, some (.int v4), some (.int v5), none, none] []) : ∀ (n : Nat) {c_full : Int32} {c_count : Nat → Int64} {c_weight : Nat → Int32} {v1 : Int32} {v2 : Int64} {v4 : Int32} {v5 : Int32} {v6 : Int32}, f_X8_placeOf_38 N c_askers c_places c_seats c_told c_wish k26 n c_full c_count c_weight v1 v2 v4 v5 v6 = some res → GG mu_X8_placeOf κ ω A (QR κ ω A ad (some (.long res.1)) (w_X8_placeOf c_askers c_places res.2.1 res.2.2.1 c_seats c_told res.2.2.2 c_wish u_above u_below u_firsts u_freed u_whole)) ad 0 0 38 (w_X8_placeOf c_askers c_places c_full c_count c_seats c_told c_weight c_wish u_above u_below u_firsts u_freed u_whole) [some (.ref 0), some (.int v1), some (.long v2), none, some (.int v4), some (.int v5), some (.int v6), none] [] := by
  intro n
  induction n with
  | zero => intro c_full c_count c_weight v1 v2 v4 v5 v6 hf; exact ob_0 hf
  | succ n ih =>
    intro c_full c_count c_weight v1 v2 v4 v5 v6 hf
    refine G_iload dX8_placeOf_38 rfl ?_
    refine G_aload_n dX8_placeOf_40 rfl rfl ?_
    refine G_get (v := .ref 3) F_X8_16 dX8_placeOf_41 rfl rfl ?_
    refine G_bipush 8 dX8_placeOf_44 (by decide) ?_
    refine G_iload_n dX8_placeOf_46 rfl rfl ?_
    refine G_imul dX8_placeOf_47 ?_
    refine G_iload dX8_placeOf_48 rfl ?_
    refine G_iadd dX8_placeOf_50 ?_
    obtain ⟨t1, ht1, hf⟩ := ob hf
    refine G_iald dX8_placeOf_51 rfl ht1 ?_
    refine G_icmp_ge 102 dX8_placeOf_52 (by decide) (fun h2 => ?_) (fun h2 => ?_)
    · replace hf := ob_t h2 hf
      refine G_aload_n dX8_placeOf_102 rfl rfl ?_
      refine G_iload dX8_placeOf_103 rfl ?_
      refine G_aload_n dX8_placeOf_105 rfl rfl ?_
      refine G_get (v := .ref 3) F_X8_16 dX8_placeOf_106 rfl rfl ?_
      refine G_bipush 8 dX8_placeOf_109 (by decide) ?_
      refine G_iload_n dX8_placeOf_111 rfl rfl ?_
      refine G_imul dX8_placeOf_112 ?_
      refine G_iload dX8_placeOf_113 rfl ?_
      refine G_iadd dX8_placeOf_115 ?_
      obtain ⟨t3, ht3, hf⟩ := ob hf
      refine G_iald dX8_placeOf_116 rfl ht3 ?_
      refine G_iload dX8_placeOf_117 rfl ?_
      obtain ⟨r4, hc5, hf⟩ := ob hf
      refine G_callV (μ2 := mu_X8_takes) (As := [.int v5, .int t3, .int v4]) (w2 := (w_X8_placeOf c_askers c_places c_full c_count c_seats c_told c_weight c_wish u_above u_below u_firsts u_freed u_whole)) (wc := (w_X8_takes c_places c_seats c_weight c_wish c_askers u_above u_below c_full u_firsts u_freed u_whole)) (wc2 := (w_X8_takes c_places c_seats c_weight c_wish c_askers u_above u_below c_full u_firsts u_freed u_whole)) (rest := []) (rv := [.int r4]) [0, 2, 4, 5] [3, 1, 1000, 1001, 1002, 1003, 1004, 1005, 1006, 1007, 1008, 1009, 1010, 1011, 1012, 1013, 1014, 1015] [1, 3] [2, 0, 3, 1, 4, 5] (c_X8_takes hc5) cw_X8_takes m_X8_120 dX8_placeOf_119 rfl ⟨leb rfl, leb rfl⟩ ⟨rfl, rfl⟩ rfl ⟨_, rfl, rfl⟩ (Fit.mk rfl rfl rfl) rfl (leb rfl) (ROsub.nil rfl rfl) rfl ?_
      change GG _ _ _ _ _ _ _ _ _ (w_X8_placeOf c_askers c_places c_full c_count c_seats c_told c_weight c_wish u_above u_below u_firsts u_freed u_whole) [some (.ref 0), some (.int v1), some (.long v2), none, some (.int v4), some (.int v5), some (.int v6), none] [.int r4]
      refine G_istore dX8_placeOf_122 (ltb rfl) ?_
      change GG _ _ _ _ _ _ _ _ _ _ [some (.ref 0), some (.int v1), some (.long v2), none, some (.int r4), some (.int v5), some (.int v6), none] _
      refine G_iinc 1 dX8_placeOf_124 (by decide) rfl (ltb rfl) ?_
      change GG _ _ _ _ _ _ _ _ _ _ [some (.ref 0), some (.int v1), some (.long v2), none, some (.int r4), some (.int (v5 + 1)), some (.int v6), none] _
      refine G_goto 26 dX8_placeOf_127 (by decide) ?_
      refine GG.sb (lv2 := [some (.ref 0), some (.int v1), some (.long v2), none, some (.int r4), some (.int (v5 + 1)), none, none]) ?_ (lvS_v rfl (lvS_v rfl (lvS_v rfl (lvS_n (lvS_v rfl (lvS_v rfl (lvS_n (lvS_n (lvS_e)))))))))
      exact hk26 hf
    · replace hf := ob_f h2 hf
      refine G_aload_n dX8_placeOf_55 rfl rfl ?_
      refine G_iload dX8_placeOf_56 rfl ?_
      refine G_iload dX8_placeOf_58 rfl ?_
      refine G_iload dX8_placeOf_60 rfl ?_
      obtain ⟨r6, hc7, hf⟩ := ob hf
      refine G_callV (μ2 := mu_X8_takes) (As := [.int v5, .int v6, .int v4]) (w2 := (w_X8_placeOf c_askers c_places c_full c_count c_seats c_told c_weight c_wish u_above u_below u_firsts u_freed u_whole)) (wc := (w_X8_takes c_places c_seats c_weight c_wish c_askers u_above u_below c_full u_firsts u_freed u_whole)) (wc2 := (w_X8_takes c_places c_seats c_weight c_wish c_askers u_above u_below c_full u_firsts u_freed u_whole)) (rest := []) (rv := [.int r6]) [0, 2, 4, 5] [3, 1, 1000, 1001, 1002, 1003, 1004, 1005, 1006, 1007, 1008, 1009, 1010, 1011, 1012, 1013, 1014, 1015] [1, 3] [2, 0, 3, 1, 4, 5] (c_X8_takes hc7) cw_X8_takes m_X8_120 dX8_placeOf_62 rfl ⟨leb rfl, leb rfl⟩ ⟨rfl, rfl⟩ rfl ⟨_, rfl, rfl⟩ (Fit.mk rfl rfl rfl) rfl (leb rfl) (ROsub.nil rfl rfl) rfl ?_
      change GG _ _ _ _ _ _ _ _ _ (w_X8_placeOf c_askers c_places c_full c_count c_seats c_told c_weight c_wish u_above u_below u_firsts u_freed u_whole) [some (.ref 0), some (.int v1), some (.long v2), none, some (.int v4), some (.int v5), some (.int v6), none] [.int r6]
      refine G_istore dX8_placeOf_65 (ltb rfl) ?_
      change GG _ _ _ _ _ _ _ _ _ _ [some (.ref 0), some (.int v1), some (.long v2), none, some (.int v4), some (.int v5), some (.int v6), some (.int r6)] _
      refine G_lload_n dX8_placeOf_67 rfl rfl ?_
      refine G_iload dX8_placeOf_68 rfl ?_
      refine G_iconst (-1 : Int32) dX8_placeOf_70 (by decide) ?_
      refine G_icmp_ne 78 dX8_placeOf_71 (by decide) (fun h8 => ?_) (fun h8 => ?_)
      · replace hf := ob_f h8 hf
        refine G_aload_n dX8_placeOf_78 rfl rfl ?_
        refine G_get (v := .ref 1) F_X8_23 dX8_placeOf_79 rfl rfl ?_
        refine G_sipush 4096 dX8_placeOf_82 (by decide) ?_
        refine G_iload dX8_placeOf_85 rfl ?_
        refine G_iconst 1 dX8_placeOf_87 (by decide) ?_
        refine G_iadd dX8_placeOf_88 ?_
        refine G_imul dX8_placeOf_89 ?_
        refine G_iload dX8_placeOf_90 rfl ?_
        refine G_iadd dX8_placeOf_92 ?_
        obtain ⟨t9, ht9, hf⟩ := ob hf
        refine G_lald dX8_placeOf_93 rfl ht9 ?_
        refine G_ladd dX8_placeOf_94 ?_
        refine G_lstore_n dX8_placeOf_95 rfl (ltb rfl) ?_
        change GG _ _ _ _ _ _ _ _ _ _ [some (.ref 0), some (.int v1), some (.long (v2 + t9)), none, some (.int v4), some (.int v5), some (.int v6), some (.int r6)] _
        refine G_iinc 1 dX8_placeOf_96 (by decide) rfl (ltb rfl) ?_
        change GG _ _ _ _ _ _ _ _ _ _ [some (.ref 0), some (.int v1), some (.long (v2 + t9)), none, some (.int v4), some (.int v5), some (.int (v6 + 1)), some (.int r6)] _
        refine G_goto 38 dX8_placeOf_99 (by decide) ?_
        refine GG.sb (lv2 := [some (.ref 0), some (.int v1), some (.long (v2 + t9)), none, some (.int v4), some (.int v5), some (.int (v6 + 1)), none]) ?_ (lvS_v rfl (lvS_v rfl (lvS_v rfl (lvS_n (lvS_v rfl (lvS_v rfl (lvS_v rfl (lvS_n (lvS_e)))))))))
        exact ih hf
      · replace hf := ob_t h8 hf
        refine G_lconst 0 dX8_placeOf_74 (by decide) ?_
        refine G_goto 94 dX8_placeOf_75 (by decide) ?_
        refine G_ladd dX8_placeOf_94 ?_
        refine G_lstore_n dX8_placeOf_95 rfl (ltb rfl) ?_
        change GG _ _ _ _ _ _ _ _ _ _ [some (.ref 0), some (.int v1), some (.long (v2 + 0)), none, some (.int v4), some (.int v5), some (.int v6), some (.int r6)] _
        refine G_iinc 1 dX8_placeOf_96 (by decide) rfl (ltb rfl) ?_
        change GG _ _ _ _ _ _ _ _ _ _ [some (.ref 0), some (.int v1), some (.long (v2 + 0)), none, some (.int v4), some (.int v5), some (.int (v6 + 1)), some (.int r6)] _
        refine G_goto 38 dX8_placeOf_99 (by decide) ?_
        refine GG.sb (lv2 := [some (.ref 0), some (.int v1), some (.long (v2 + 0)), none, some (.int v4), some (.int v5), some (.int (v6 + 1)), none]) ?_ (lvS_v rfl (lvS_v rfl (lvS_v rfl (lvS_n (lvS_v rfl (lvS_v rfl (lvS_v rfl (lvS_n (lvS_e)))))))))
        exact ih hf
def f_X8_placeOf_26 (N : Nat) (c_askers : Int32) (c_places : Int32) (c_seats : Nat → Int32) (c_told : Nat → Int32) (c_wish : Nat → Int32) : Nat → Int32 → (Nat → Int64) → (Nat → Int32) → Int32 → Int64 → Int32 → Int32 → Option (Int64 × Int32 × (Nat → Int64) × (Nat → Int32))
  | 0, _, _, _, _, _, _, _ => none
  | n + 1, c_full, c_count, c_weight, v1, v2, v4, v5 =>
    (if c_askers ≤ v5 then
      some (v2, c_full, c_count, c_weight)
    else
      f_X8_placeOf_38 N c_askers c_places c_seats c_told c_wish (f_X8_placeOf_26 N c_askers c_places c_seats c_told c_wish n) N c_full c_count c_weight v1 v2 v4 v5 0)
set_option maxHeartbeats 4000000 in
set_option maxRecDepth 100000 in
theorem g_X8_placeOf_26 {κ : KC} {ω : KW} {A : Nat → Prop} {ad : Nat → Nat} {u_above : Int64} {u_below : Int64} {u_firsts : Int32} {u_freed : Int32} {u_whole : Int64} {N : Nat} {c_askers : Int32} {c_places : Int32} {c_seats : Nat → Int32} {c_told : Nat → Int32} {c_wish : Nat → Int32}  {res : Int64 × Int32 × (Nat → Int64) × (Nat → Int32)} : ∀ (n : Nat) {c_full : Int32} {c_count : Nat → Int64} {c_weight : Nat → Int32} {v1 : Int32} {v2 : Int64} {v4 : Int32} {v5 : Int32}, f_X8_placeOf_26 N c_askers c_places c_seats c_told c_wish n c_full c_count c_weight v1 v2 v4 v5 = some res → GG mu_X8_placeOf κ ω A (QR κ ω A ad (some (.long res.1)) (w_X8_placeOf c_askers c_places res.2.1 res.2.2.1 c_seats c_told res.2.2.2 c_wish u_above u_below u_firsts u_freed u_whole)) ad 0 0 26 (w_X8_placeOf c_askers c_places c_full c_count c_seats c_told c_weight c_wish u_above u_below u_firsts u_freed u_whole) [some (.ref 0), some (.int v1), some (.long v2), none, some (.int v4), some (.int v5), none, none] [] := by
  intro n
  induction n with
  | zero => intro c_full c_count c_weight v1 v2 v4 v5 hf; exact ob_0 hf
  | succ n ih =>
    intro c_full c_count c_weight v1 v2 v4 v5 hf
    refine G_iload dX8_placeOf_26 rfl ?_
    refine G_aload_n dX8_placeOf_28 rfl rfl ?_
    refine G_get (v := .int c_askers) F_X8_89 dX8_placeOf_29 rfl rfl ?_
    refine G_icmp_ge 130 dX8_placeOf_32 (by decide) (fun h1 => ?_) (fun h1 => ?_)
    · replace hf := ob_t h1 hf
      refine G_lload_n dX8_placeOf_130 rfl rfl ?_
      obtain rfl := os hf
      exact G_lreturn dX8_placeOf_131 rfl
    · replace hf := ob_f h1 hf
      refine G_iconst 0 dX8_placeOf_35 (by decide) ?_
      refine G_istore dX8_placeOf_36 (ltb rfl) ?_
      change GG _ _ _ _ _ _ _ _ _ _ [some (.ref 0), some (.int v1), some (.long v2), none, some (.int v4), some (.int v5), some (.int 0), none] _
      exact g_X8_placeOf_38 ih N hf
def f_X8_placeOf (N : Nat) (c_askers : Int32) (c_places : Int32) (c_seats : Nat → Int32) (c_told : Nat → Int32) (c_wish : Nat → Int32) (c_full : Int32) (c_count : Nat → Int64) (c_weight : Nat → Int32) (a1 : Int32) : Option (Int64 × Int32 × (Nat → Int64) × (Nat → Int32)) :=
  (f_X8_isTold N a1).bind fun r1 =>
  (if r1 = 0 then
    some ((-2 : Int64), c_full, c_count, c_weight)
  else
    (f_X8_findCount N c_askers c_places c_seats c_wish c_full c_count c_weight).bind fun (o4, o5, o6) =>
    f_X8_placeOf_26 N c_askers c_places c_seats c_told c_wish N o4 o5 o6 a1 0 o4 0)
set_option maxHeartbeats 4000000 in
set_option maxRecDepth 100000 in
theorem c_X8_placeOf {N : Nat} {c_askers : Int32} {c_places : Int32} {c_seats : Nat → Int32} {c_told : Nat → Int32} {c_wish : Nat → Int32} {c_full : Int32} {c_count : Nat → Int64} {c_weight : Nat → Int32} {u_above : Int64} {u_below : Int64} {u_firsts : Int32} {u_freed : Int32} {u_whole : Int64} {a1 : Int32} {res : Int64 × Int32 × (Nat → Int64) × (Nat → Int32)} (hf : f_X8_placeOf N c_askers c_places c_seats c_told c_wish c_full c_count c_weight a1 = some res) : Con mu_X8_placeOf [.ref 0, .int a1] (w_X8_placeOf c_askers c_places c_full c_count c_seats c_told c_weight c_wish u_above u_below u_firsts u_freed u_whole) (some (.long res.1)) (w_X8_placeOf c_askers c_places res.2.1 res.2.2.1 c_seats c_told res.2.2.2 c_wish u_above u_below u_firsts u_freed u_whole) := by
  refine Con.mk (show plainName RX8 = true by decide +kernel) (leb rfl) (fun κ ω A ad => ?_)
  change GG mu_X8_placeOf κ ω A (QR κ ω A ad (some (.long res.1)) (w_X8_placeOf c_askers c_places res.2.1 res.2.2.1 c_seats c_told res.2.2.2 c_wish u_above u_below u_firsts u_freed u_whole)) ad 0 0 0 (w_X8_placeOf c_askers c_places c_full c_count c_seats c_told c_weight c_wish u_above u_below u_firsts u_freed u_whole) [some (.ref 0), some (.int a1), none, none, none, none, none, none] []
  refine G_iload_n dX8_placeOf_0 rfl rfl ?_
  obtain ⟨r1, hc2, hf⟩ := ob hf
  refine G_callS (μ2 := mu_X8_isTold) (As := [.int a1]) (w2 := (w_X8_placeOf c_askers c_places c_full c_count c_seats c_told c_weight c_wish u_above u_below u_firsts u_freed u_whole)) (wc := []) (wc2 := []) (rest := []) (rv := [.int r1]) [] [] [0, 1, 2, 3, 4, 5] [0, 1, 2, 3, 4, 5] (c_X8_isTold hc2) cw_X8_isTold m_X8_127 rfl dX8_placeOf_1 rfl ⟨leb rfl, leb rfl⟩ ⟨rfl, rfl⟩ (Fit.mk rfl rfl rfl) rfl (leb rfl) (ROsub.nil rfl rfl) rfl ?_
  change GG _ _ _ _ _ _ _ _ _ (w_X8_placeOf c_askers c_places c_full c_count c_seats c_told c_weight c_wish u_above u_below u_firsts u_freed u_whole) [some (.ref 0), some (.int a1), none, none, none, none, none, none] [.int r1]
  refine G_if_ne 11 dX8_placeOf_4 (by decide) (fun h3 => ?_) (fun h3 => ?_)
  · replace hf := ob_f h3 hf
    refine G_aload_n dX8_placeOf_11 rfl rfl ?_
    obtain ⟨⟨o4, o5, o6⟩, hc7, hf⟩ := ob hf
    refine G_callV (μ2 := mu_X8_findCount) (As := []) (w2 := (w_X8_placeOf c_askers c_places o4 o5 c_seats c_told o6 c_wish u_above u_below u_firsts u_freed u_whole)) (wc := (w_X8_findCount c_askers c_places c_full c_count c_seats c_weight c_wish u_above u_below u_firsts u_freed u_whole)) (wc2 := (w_X8_findCount c_askers c_places o4 o5 c_seats o6 c_wish u_above u_below u_firsts u_freed u_whole)) (rest := []) (rv := []) [0, 1, 2, 4, 5] [3, 1000, 1001, 1002, 1003, 1004, 1005, 1006, 1007, 1008, 1009, 1010, 1011, 1012, 1013, 1014, 1015] [3] [1, 2, 3, 0, 4, 5] (c_X8_findCount hc7) cw_X8_findCount m_X8_124 dX8_placeOf_12 rfl ⟨leb rfl, leb rfl⟩ ⟨rfl, rfl⟩ rfl ⟨_, rfl, rfl⟩ (Fit.mk rfl rfl rfl) rfl (leb rfl) (ROsub.nil rfl rfl) rfl ?_
    change GG _ _ _ _ _ _ _ _ _ (w_X8_placeOf c_askers c_places o4 o5 c_seats c_told o6 c_wish u_above u_below u_firsts u_freed u_whole) [some (.ref 0), some (.int a1), none, none, none, none, none, none] []
    refine G_lconst 0 dX8_placeOf_15 (by decide) ?_
    refine G_lstore_n dX8_placeOf_16 rfl (ltb rfl) ?_
    change GG _ _ _ _ _ _ _ _ _ _ [some (.ref 0), some (.int a1), some (.long 0), none, none, none, none, none] _
    refine G_aload_n dX8_placeOf_17 rfl rfl ?_
    refine G_get (v := .int o4) F_X8_114 dX8_placeOf_18 rfl rfl ?_
    refine G_istore dX8_placeOf_21 (ltb rfl) ?_
    change GG _ _ _ _ _ _ _ _ _ _ [some (.ref 0), some (.int a1), some (.long 0), none, some (.int o4), none, none, none] _
    refine G_iconst 0 dX8_placeOf_23 (by decide) ?_
    refine G_istore dX8_placeOf_24 (ltb rfl) ?_
    change GG _ _ _ _ _ _ _ _ _ _ [some (.ref 0), some (.int a1), some (.long 0), none, some (.int o4), some (.int 0), none, none] _
    exact g_X8_placeOf_26 N hf
  · replace hf := ob_t h3 hf
    refine G_ldc2 (v := (-2 : Int64)) dX8_placeOf_7 k_X8_161 ?_
    obtain rfl := os hf
    exact G_lreturn dX8_placeOf_10 rfl
set_option maxRecDepth 20000 in
theorem dX8_many_0 : decode cX8_many 0 = .ok (.iload_n 1, 1) := by decide +kernel
set_option maxRecDepth 20000 in
theorem dX8_many_1 : decode cX8_many 1 = .ok (.invokestatic 127, 3) := by decide +kernel
set_option maxRecDepth 20000 in
theorem dX8_many_4 : decode cX8_many 4 = .ok (.ifCond .eq 13, 3) := by decide +kernel
set_option maxRecDepth 20000 in
theorem dX8_many_7 : decode cX8_many 7 = .ok (.iload_n 2, 1) := by decide +kernel
set_option maxRecDepth 20000 in
theorem dX8_many_8 : decode cX8_many 8 = .ok (.iconst 1, 1) := by decide +kernel
set_option maxRecDepth 20000 in
theorem dX8_many_9 : decode cX8_many 9 = .ok (.bipush 7, 2) := by decide +kernel
set_option maxRecDepth 20000 in
theorem dX8_many_11 : decode cX8_many 11 = .ok (.invokestatic 93, 3) := by decide +kernel
set_option maxRecDepth 20000 in
theorem dX8_many_14 : decode cX8_many 14 = .ok (.ifCond .ne 6, 3) := by decide +kernel
set_option maxRecDepth 20000 in
theorem dX8_many_17 : decode cX8_many 17 = .ok (.bipush (-2), 2) := by decide +kernel
set_option maxRecDepth 20000 in
theorem dX8_many_19 : decode cX8_many 19 = .ok (.ireturn, 1) := by decide +kernel
set_option maxRecDepth 20000 in
theorem dX8_many_20 : decode cX8_many 20 = .ok (.iconst 0, 1) := by decide +kernel
set_option maxRecDepth 20000 in
theorem dX8_many_21 : decode cX8_many 21 = .ok (.istore_n 3, 1) := by decide +kernel
set_option maxRecDepth 20000 in
theorem dX8_many_22 : decode cX8_many 22 = .ok (.iconst 0, 1) := by decide +kernel
set_option maxRecDepth 20000 in
theorem dX8_many_23 : decode cX8_many 23 = .ok (.istore 4, 2) := by decide +kernel
set_option maxRecDepth 20000 in
theorem dX8_many_25 : decode cX8_many 25 = .ok (.iload 4, 2) := by decide +kernel
set_option maxRecDepth 20000 in
theorem dX8_many_27 : decode cX8_many 27 = .ok (.aload_n 0, 1) := by decide +kernel
set_option maxRecDepth 20000 in
theorem dX8_many_28 : decode cX8_many 28 = .ok (.getfield 89, 3) := by decide +kernel
set_option maxRecDepth 20000 in
theorem dX8_many_31 : decode cX8_many 31 = .ok (.if_icmp .ge 39, 3) := by decide +kernel
set_option maxRecDepth 20000 in
theorem dX8_many_34 : decode cX8_many 34 = .ok (.iload_n 3, 1) := by decide +kernel
set_option maxRecDepth 20000 in
theorem dX8_many_35 : decode cX8_many 35 = .ok (.aload_n 0, 1) := by decide +kernel
set_option maxRecDepth 20000 in
theorem dX8_many_36 : decode cX8_many 36 = .ok (.iload 4, 2) := by decide +kernel
set_option maxRecDepth 20000 in
theorem dX8_many_38 : decode cX8_many 38 = .ok (.aload_n 0, 1) := by decide +kernel
set_option maxRecDepth 20000 in
theorem dX8_many_39 : decode cX8_many 39 = .ok (.getfield 16, 3) := by decide +kernel
set_option maxRecDepth 20000 in
theorem dX8_many_42 : decode cX8_many 42 = .ok (.bipush 8, 2) := by decide +kernel
set_option maxRecDepth 20000 in
theorem dX8_many_44 : decode cX8_many 44 = .ok (.iload_n 1, 1) := by decide +kernel
set_option maxRecDepth 20000 in
theorem dX8_many_45 : decode cX8_many 45 = .ok (.imul, 1) := by decide +kernel
set_option maxRecDepth 20000 in
theorem dX8_many_46 : decode cX8_many 46 = .ok (.iload 4, 2) := by decide +kernel
set_option maxRecDepth 20000 in
theorem dX8_many_48 : decode cX8_many 48 = .ok (.iadd, 1) := by decide +kernel
set_option maxRecDepth 20000 in
theorem dX8_many_49 : decode cX8_many 49 = .ok (.iaload, 1) := by decide +kernel
set_option maxRecDepth 20000 in
theorem dX8_many_50 : decode cX8_many 50 = .ok (.invokevirtual 111, 3) := by decide +kernel
set_option maxRecDepth 20000 in
theorem dX8_many_53 : decode cX8_many 53 = .ok (.iload_n 2, 1) := by decide +kernel
set_option maxRecDepth 20000 in
theorem dX8_many_54 : decode cX8_many 54 = .ok (.if_icmp .ne 7, 3) := by decide +kernel
set_option maxRecDepth 20000 in
theorem dX8_many_57 : decode cX8_many 57 = .ok (.iconst 1, 1) := by decide +kernel
set_option maxRecDepth 20000 in
theorem dX8_many_58 : decode cX8_many 58 = .ok (.goto 4, 3) := by decide +kernel
set_option maxRecDepth 20000 in
theorem dX8_many_61 : decode cX8_many 61 = .ok (.iconst 0, 1) := by decide +kernel
set_option maxRecDepth 20000 in
theorem dX8_many_62 : decode cX8_many 62 = .ok (.iadd, 1) := by decide +kernel
set_option maxRecDepth 20000 in
theorem dX8_many_63 : decode cX8_many 63 = .ok (.istore_n 3, 1) := by decide +kernel
set_option maxRecDepth 20000 in
theorem dX8_many_64 : decode cX8_many 64 = .ok (.iinc 4 1, 3) := by decide +kernel
set_option maxRecDepth 20000 in
theorem dX8_many_67 : decode cX8_many 67 = .ok (.goto (-42), 3) := by decide +kernel
set_option maxRecDepth 20000 in
theorem dX8_many_70 : decode cX8_many 70 = .ok (.iload_n 3, 1) := by decide +kernel
set_option maxRecDepth 20000 in
theorem dX8_many_71 : decode cX8_many 71 = .ok (.ireturn, 1) := by decide +kernel
def f_X8_many_25 (N : Nat) (c_askers : Int32) (c_told : Nat → Int32) (c_wish : Nat → Int32) : Nat → Int32 → Int32 → Int32 → Int32 → Option (Int32)
  | 0, _, _, _, _ => none
  | n + 1, v1, v2, v3, v4 =>
    (if c_askers ≤ v4 then
      some v3
    else
      (rdI 32 c_told ((8 * v1) + v4)).bind fun t2 =>
      (f_X8_worthOf N c_wish v4 t2).bind fun r3 =>
      (if r3 = v2 then
        f_X8_many_25 N c_askers c_told c_wish n v1 v2 (v3 + 1) (v4 + 1)
      else
        f_X8_many_25 N c_askers c_told c_wish n v1 v2 (v3 + 0) (v4 + 1)))
set_option maxHeartbeats 4000000 in
set_option maxRecDepth 100000 in
theorem g_X8_many_25 {κ : KC} {ω : KW} {A : Nat → Prop} {ad : Nat → Nat} {u_places : Int32} {u_above : Int64} {u_below : Int64} {u_full : Int32} {u_firsts : Int32} {u_freed : Int32} {u_whole : Int64} {N : Nat} {c_askers : Int32} {c_told : Nat → Int32} {c_wish : Nat → Int32}  {res : Int32} : ∀ (n : Nat) {v1 : Int32} {v2 : Int32} {v3 : Int32} {v4 : Int32}, f_X8_many_25 N c_askers c_told c_wish n v1 v2 v3 v4 = some res → GG mu_X8_many κ ω A (QR κ ω A ad (some (.int res)) (w_X8_many c_askers c_told c_wish u_places u_above u_below u_full u_firsts u_freed u_whole)) ad 0 0 25 (w_X8_many c_askers c_told c_wish u_places u_above u_below u_full u_firsts u_freed u_whole) [some (.ref 0), some (.int v1), some (.int v2), some (.int v3), some (.int v4)] [] := by
  intro n
  induction n with
  | zero => intro v1 v2 v3 v4 hf; exact ob_0 hf
  | succ n ih =>
    intro v1 v2 v3 v4 hf
    refine G_iload dX8_many_25 rfl ?_
    refine G_aload_n dX8_many_27 rfl rfl ?_
    refine G_get (v := .int c_askers) F_X8_89 dX8_many_28 rfl rfl ?_
    refine G_icmp_ge 70 dX8_many_31 (by decide) (fun h1 => ?_) (fun h1 => ?_)
    · replace hf := ob_t h1 hf
      refine G_iload_n dX8_many_70 rfl rfl ?_
      obtain rfl := os hf
      exact G_ireturn dX8_many_71 rfl
    · replace hf := ob_f h1 hf
      refine G_iload_n dX8_many_34 rfl rfl ?_
      refine G_aload_n dX8_many_35 rfl rfl ?_
      refine G_iload dX8_many_36 rfl ?_
      refine G_aload_n dX8_many_38 rfl rfl ?_
      refine G_get (v := .ref 1) F_X8_16 dX8_many_39 rfl rfl ?_
      refine G_bipush 8 dX8_many_42 (by decide) ?_
      refine G_iload_n dX8_many_44 rfl rfl ?_
      refine G_imul dX8_many_45 ?_
      refine G_iload dX8_many_46 rfl ?_
      refine G_iadd dX8_many_48 ?_
      obtain ⟨t2, ht2, hf⟩ := ob hf
      refine G_iald dX8_many_49 rfl ht2 ?_
      obtain ⟨r3, hc4, hf⟩ := ob hf
      refine G_callV (μ2 := mu_X8_worthOf) (As := [.int v4, .int t2]) (w2 := (w_X8_many c_askers c_told c_wish u_places u_above u_below u_full u_firsts u_freed u_whole)) (wc := (w_X8_worthOf c_wish c_askers u_places u_above u_below u_full u_firsts u_freed u_whole)) (wc2 := (w_X8_worthOf c_wish c_askers u_places u_above u_below u_full u_firsts u_freed u_whole)) (rest := [.int v3]) (rv := [.int r3]) [0, 2] [1000, 1, 1001, 1002, 1003, 1004, 1005, 1006, 1007, 1008, 1009, 1010, 1011, 1012, 1013, 1014, 1015, 1016, 1017, 1018] [1] [1, 0, 2] (c_X8_worthOf hc4) cw_X8_worthOf m_X8_111 dX8_many_50 rfl ⟨leb rfl, leb rfl⟩ ⟨rfl, rfl⟩ rfl ⟨_, rfl, rfl⟩ (Fit.mk rfl rfl rfl) rfl (leb rfl) (ROsub.nil rfl rfl) rfl ?_
      change GG _ _ _ _ _ _ _ _ _ (w_X8_many c_askers c_told c_wish u_places u_above u_below u_full u_firsts u_freed u_whole) [some (.ref 0), some (.int v1), some (.int v2), some (.int v3), some (.int v4)] [.int r3, .int v3]
      refine G_iload_n dX8_many_53 rfl rfl ?_
      refine G_icmp_ne 61 dX8_many_54 (by decide) (fun h5 => ?_) (fun h5 => ?_)
      · replace hf := ob_f h5 hf
        refine G_iconst 0 dX8_many_61 (by decide) ?_
        refine G_iadd dX8_many_62 ?_
        refine G_istore_n dX8_many_63 rfl (ltb rfl) ?_
        change GG _ _ _ _ _ _ _ _ _ _ [some (.ref 0), some (.int v1), some (.int v2), some (.int (v3 + 0)), some (.int v4)] _
        refine G_iinc 1 dX8_many_64 (by decide) rfl (ltb rfl) ?_
        change GG _ _ _ _ _ _ _ _ _ _ [some (.ref 0), some (.int v1), some (.int v2), some (.int (v3 + 0)), some (.int (v4 + 1))] _
        refine G_goto 25 dX8_many_67 (by decide) ?_
        exact ih hf
      · replace hf := ob_t h5 hf
        refine G_iconst 1 dX8_many_57 (by decide) ?_
        refine G_goto 62 dX8_many_58 (by decide) ?_
        refine G_iadd dX8_many_62 ?_
        refine G_istore_n dX8_many_63 rfl (ltb rfl) ?_
        change GG _ _ _ _ _ _ _ _ _ _ [some (.ref 0), some (.int v1), some (.int v2), some (.int (v3 + 1)), some (.int v4)] _
        refine G_iinc 1 dX8_many_64 (by decide) rfl (ltb rfl) ?_
        change GG _ _ _ _ _ _ _ _ _ _ [some (.ref 0), some (.int v1), some (.int v2), some (.int (v3 + 1)), some (.int (v4 + 1))] _
        refine G_goto 25 dX8_many_67 (by decide) ?_
        exact ih hf
def f_X8_many (N : Nat) (c_askers : Int32) (c_told : Nat → Int32) (c_wish : Nat → Int32) (a1 : Int32) (a2 : Int32) : Option (Int32) :=
  (f_X8_isTold N a1).bind fun r1 =>
  (if r1 = 0 then
    some (-2 : Int32)
  else
    (f_X8_in N a2 1 7).bind fun r4 =>
    (if r4 = 0 then
      some (-2 : Int32)
    else
      f_X8_many_25 N c_askers c_told c_wish N a1 a2 0 0))
set_option maxHeartbeats 4000000 in
set_option maxRecDepth 100000 in
theorem c_X8_many {N : Nat} {c_askers : Int32} {c_told : Nat → Int32} {c_wish : Nat → Int32}  {u_places : Int32} {u_above : Int64} {u_below : Int64} {u_full : Int32} {u_firsts : Int32} {u_freed : Int32} {u_whole : Int64} {a1 : Int32} {a2 : Int32} {res : Int32} (hf : f_X8_many N c_askers c_told c_wish a1 a2 = some res) : Con mu_X8_many [.ref 0, .int a1, .int a2] (w_X8_many c_askers c_told c_wish u_places u_above u_below u_full u_firsts u_freed u_whole) (some (.int res)) (w_X8_many c_askers c_told c_wish u_places u_above u_below u_full u_firsts u_freed u_whole) := by
  refine Con.mk (show plainName RX8 = true by decide +kernel) (leb rfl) (fun κ ω A ad => ?_)
  change GG mu_X8_many κ ω A (QR κ ω A ad (some (.int res)) (w_X8_many c_askers c_told c_wish u_places u_above u_below u_full u_firsts u_freed u_whole)) ad 0 0 0 (w_X8_many c_askers c_told c_wish u_places u_above u_below u_full u_firsts u_freed u_whole) [some (.ref 0), some (.int a1), some (.int a2), none, none] []
  refine G_iload_n dX8_many_0 rfl rfl ?_
  obtain ⟨r1, hc2, hf⟩ := ob hf
  refine G_callS (μ2 := mu_X8_isTold) (As := [.int a1]) (w2 := (w_X8_many c_askers c_told c_wish u_places u_above u_below u_full u_firsts u_freed u_whole)) (wc := []) (wc2 := []) (rest := []) (rv := [.int r1]) [] [] [0, 1, 2] [0, 1, 2] (c_X8_isTold hc2) cw_X8_isTold m_X8_127 rfl dX8_many_1 rfl ⟨leb rfl, leb rfl⟩ ⟨rfl, rfl⟩ (Fit.mk rfl rfl rfl) rfl (leb rfl) (ROsub.nil rfl rfl) rfl ?_
  change GG _ _ _ _ _ _ _ _ _ (w_X8_many c_askers c_told c_wish u_places u_above u_below u_full u_firsts u_freed u_whole) [some (.ref 0), some (.int a1), some (.int a2), none, none] [.int r1]
  refine G_if_eq 17 dX8_many_4 (by decide) (fun h3 => ?_) (fun h3 => ?_)
  · replace hf := ob_t h3 hf
    refine G_bipush (-2 : Int32) dX8_many_17 (by decide) ?_
    obtain rfl := os hf
    exact G_ireturn dX8_many_19 rfl
  · replace hf := ob_f h3 hf
    refine G_iload_n dX8_many_7 rfl rfl ?_
    refine G_iconst 1 dX8_many_8 (by decide) ?_
    refine G_bipush 7 dX8_many_9 (by decide) ?_
    obtain ⟨r4, hc5, hf⟩ := ob hf
    refine G_callS (μ2 := mu_X8_in) (As := [.int a2, .int 1, .int 7]) (w2 := (w_X8_many c_askers c_told c_wish u_places u_above u_below u_full u_firsts u_freed u_whole)) (wc := []) (wc2 := []) (rest := []) (rv := [.int r4]) [] [] [0, 1, 2] [0, 1, 2] (c_X8_in hc5) cw_X8_in m_X8_93 rfl dX8_many_11 rfl ⟨leb rfl, leb rfl⟩ ⟨rfl, rfl⟩ (Fit.mk rfl rfl rfl) rfl (leb rfl) (ROsub.nil rfl rfl) rfl ?_
    change GG _ _ _ _ _ _ _ _ _ (w_X8_many c_askers c_told c_wish u_places u_above u_below u_full u_firsts u_freed u_whole) [some (.ref 0), some (.int a1), some (.int a2), none, none] [.int r4]
    refine G_if_ne 20 dX8_many_14 (by decide) (fun h6 => ?_) (fun h6 => ?_)
    · replace hf := ob_f h6 hf
      refine G_iconst 0 dX8_many_20 (by decide) ?_
      refine G_istore_n dX8_many_21 rfl (ltb rfl) ?_
      change GG _ _ _ _ _ _ _ _ _ _ [some (.ref 0), some (.int a1), some (.int a2), some (.int 0), none] _
      refine G_iconst 0 dX8_many_22 (by decide) ?_
      refine G_istore dX8_many_23 (ltb rfl) ?_
      change GG _ _ _ _ _ _ _ _ _ _ [some (.ref 0), some (.int a1), some (.int a2), some (.int 0), some (.int 0)] _
      exact g_X8_many_25 N hf
    · replace hf := ob_t h6 hf
      refine G_bipush (-2 : Int32) dX8_many_17 (by decide) ?_
      obtain rfl := os hf
      exact G_ireturn dX8_many_19 rfl
set_option maxRecDepth 20000 in
theorem dX8_votes_0 : decode cX8_votes 0 = .ok (.iload_n 1, 1) := by decide +kernel
set_option maxRecDepth 20000 in
theorem dX8_votes_1 : decode cX8_votes 1 = .ok (.invokestatic 127, 3) := by decide +kernel
set_option maxRecDepth 20000 in
theorem dX8_votes_4 : decode cX8_votes 4 = .ok (.ifCond .eq 10, 3) := by decide +kernel
set_option maxRecDepth 20000 in
theorem dX8_votes_7 : decode cX8_votes 7 = .ok (.iload_n 2, 1) := by decide +kernel
set_option maxRecDepth 20000 in
theorem dX8_votes_8 : decode cX8_votes 8 = .ok (.invokestatic 127, 3) := by decide +kernel
set_option maxRecDepth 20000 in
theorem dX8_votes_11 : decode cX8_votes 11 = .ok (.ifCond .ne 6, 3) := by decide +kernel
set_option maxRecDepth 20000 in
theorem dX8_votes_14 : decode cX8_votes 14 = .ok (.bipush (-100), 2) := by decide +kernel
set_option maxRecDepth 20000 in
theorem dX8_votes_16 : decode cX8_votes 16 = .ok (.ireturn, 1) := by decide +kernel
set_option maxRecDepth 20000 in
theorem dX8_votes_17 : decode cX8_votes 17 = .ok (.iconst 0, 1) := by decide +kernel
set_option maxRecDepth 20000 in
theorem dX8_votes_18 : decode cX8_votes 18 = .ok (.istore_n 3, 1) := by decide +kernel
set_option maxRecDepth 20000 in
theorem dX8_votes_19 : decode cX8_votes 19 = .ok (.iconst 0, 1) := by decide +kernel
set_option maxRecDepth 20000 in
theorem dX8_votes_20 : decode cX8_votes 20 = .ok (.istore 4, 2) := by decide +kernel
set_option maxRecDepth 20000 in
theorem dX8_votes_22 : decode cX8_votes 22 = .ok (.iload 4, 2) := by decide +kernel
set_option maxRecDepth 20000 in
theorem dX8_votes_24 : decode cX8_votes 24 = .ok (.aload_n 0, 1) := by decide +kernel
set_option maxRecDepth 20000 in
theorem dX8_votes_25 : decode cX8_votes 25 = .ok (.getfield 89, 3) := by decide +kernel
set_option maxRecDepth 20000 in
theorem dX8_votes_28 : decode cX8_votes 28 = .ok (.if_icmp .ge 75, 3) := by decide +kernel
set_option maxRecDepth 20000 in
theorem dX8_votes_31 : decode cX8_votes 31 = .ok (.aload_n 0, 1) := by decide +kernel
set_option maxRecDepth 20000 in
theorem dX8_votes_32 : decode cX8_votes 32 = .ok (.iload 4, 2) := by decide +kernel
set_option maxRecDepth 20000 in
theorem dX8_votes_34 : decode cX8_votes 34 = .ok (.aload_n 0, 1) := by decide +kernel
set_option maxRecDepth 20000 in
theorem dX8_votes_35 : decode cX8_votes 35 = .ok (.getfield 16, 3) := by decide +kernel
set_option maxRecDepth 20000 in
theorem dX8_votes_38 : decode cX8_votes 38 = .ok (.bipush 8, 2) := by decide +kernel
set_option maxRecDepth 20000 in
theorem dX8_votes_40 : decode cX8_votes 40 = .ok (.iload_n 1, 1) := by decide +kernel
set_option maxRecDepth 20000 in
theorem dX8_votes_41 : decode cX8_votes 41 = .ok (.imul, 1) := by decide +kernel
set_option maxRecDepth 20000 in
theorem dX8_votes_42 : decode cX8_votes 42 = .ok (.iload 4, 2) := by decide +kernel
set_option maxRecDepth 20000 in
theorem dX8_votes_44 : decode cX8_votes 44 = .ok (.iadd, 1) := by decide +kernel
set_option maxRecDepth 20000 in
theorem dX8_votes_45 : decode cX8_votes 45 = .ok (.iaload, 1) := by decide +kernel
set_option maxRecDepth 20000 in
theorem dX8_votes_46 : decode cX8_votes 46 = .ok (.invokevirtual 111, 3) := by decide +kernel
set_option maxRecDepth 20000 in
theorem dX8_votes_49 : decode cX8_votes 49 = .ok (.istore 5, 2) := by decide +kernel
set_option maxRecDepth 20000 in
theorem dX8_votes_51 : decode cX8_votes 51 = .ok (.aload_n 0, 1) := by decide +kernel
set_option maxRecDepth 20000 in
theorem dX8_votes_52 : decode cX8_votes 52 = .ok (.iload 4, 2) := by decide +kernel
set_option maxRecDepth 20000 in
theorem dX8_votes_54 : decode cX8_votes 54 = .ok (.aload_n 0, 1) := by decide +kernel
set_option maxRecDepth 20000 in
theorem dX8_votes_55 : decode cX8_votes 55 = .ok (.getfield 16, 3) := by decide +kernel
set_option maxRecDepth 20000 in
theorem dX8_votes_58 : decode cX8_votes 58 = .ok (.bipush 8, 2) := by decide +kernel
set_option maxRecDepth 20000 in
theorem dX8_votes_60 : decode cX8_votes 60 = .ok (.iload_n 2, 1) := by decide +kernel
set_option maxRecDepth 20000 in
theorem dX8_votes_61 : decode cX8_votes 61 = .ok (.imul, 1) := by decide +kernel
set_option maxRecDepth 20000 in
theorem dX8_votes_62 : decode cX8_votes 62 = .ok (.iload 4, 2) := by decide +kernel
set_option maxRecDepth 20000 in
theorem dX8_votes_64 : decode cX8_votes 64 = .ok (.iadd, 1) := by decide +kernel
set_option maxRecDepth 20000 in
theorem dX8_votes_65 : decode cX8_votes 65 = .ok (.iaload, 1) := by decide +kernel
set_option maxRecDepth 20000 in
theorem dX8_votes_66 : decode cX8_votes 66 = .ok (.invokevirtual 111, 3) := by decide +kernel
set_option maxRecDepth 20000 in
theorem dX8_votes_69 : decode cX8_votes 69 = .ok (.istore 6, 2) := by decide +kernel
set_option maxRecDepth 20000 in
theorem dX8_votes_71 : decode cX8_votes 71 = .ok (.iload_n 3, 1) := by decide +kernel
set_option maxRecDepth 20000 in
theorem dX8_votes_72 : decode cX8_votes 72 = .ok (.iload 5, 2) := by decide +kernel
set_option maxRecDepth 20000 in
theorem dX8_votes_74 : decode cX8_votes 74 = .ok (.iload 6, 2) := by decide +kernel
set_option maxRecDepth 20000 in
theorem dX8_votes_76 : decode cX8_votes 76 = .ok (.if_icmp .ge 7, 3) := by decide +kernel
set_option maxRecDepth 20000 in
theorem dX8_votes_79 : decode cX8_votes 79 = .ok (.iconst 1, 1) := by decide +kernel
set_option maxRecDepth 20000 in
theorem dX8_votes_80 : decode cX8_votes 80 = .ok (.goto 15, 3) := by decide +kernel
set_option maxRecDepth 20000 in
theorem dX8_votes_83 : decode cX8_votes 83 = .ok (.iload 5, 2) := by decide +kernel
set_option maxRecDepth 20000 in
theorem dX8_votes_85 : decode cX8_votes 85 = .ok (.iload 6, 2) := by decide +kernel
set_option maxRecDepth 20000 in
theorem dX8_votes_87 : decode cX8_votes 87 = .ok (.if_icmp .le 7, 3) := by decide +kernel
set_option maxRecDepth 20000 in
theorem dX8_votes_90 : decode cX8_votes 90 = .ok (.iconst (-1), 1) := by decide +kernel
set_option maxRecDepth 20000 in
theorem dX8_votes_91 : decode cX8_votes 91 = .ok (.goto 4, 3) := by decide +kernel
set_option maxRecDepth 20000 in
theorem dX8_votes_94 : decode cX8_votes 94 = .ok (.iconst 0, 1) := by decide +kernel
set_option maxRecDepth 20000 in
theorem dX8_votes_95 : decode cX8_votes 95 = .ok (.iadd, 1) := by decide +kernel
set_option maxRecDepth 20000 in
theorem dX8_votes_96 : decode cX8_votes 96 = .ok (.istore_n 3, 1) := by decide +kernel
set_option maxRecDepth 20000 in
theorem dX8_votes_97 : decode cX8_votes 97 = .ok (.iinc 4 1, 3) := by decide +kernel
set_option maxRecDepth 20000 in
theorem dX8_votes_100 : decode cX8_votes 100 = .ok (.goto (-78), 3) := by decide +kernel
set_option maxRecDepth 20000 in
theorem dX8_votes_103 : decode cX8_votes 103 = .ok (.iload_n 3, 1) := by decide +kernel
set_option maxRecDepth 20000 in
theorem dX8_votes_104 : decode cX8_votes 104 = .ok (.ireturn, 1) := by decide +kernel
def f_X8_votes_22 (N : Nat) (c_askers : Int32) (c_told : Nat → Int32) (c_wish : Nat → Int32) : Nat → Int32 → Int32 → Int32 → Int32 → Option (Int32)
  | 0, _, _, _, _ => none
  | n + 1, v1, v2, v3, v4 =>
    (if c_askers ≤ v4 then
      some v3
    else
      (rdI 32 c_told ((8 * v1) + v4)).bind fun t2 =>
      (f_X8_worthOf N c_wish v4 t2).bind fun r3 =>
      (rdI 32 c_told ((8 * v2) + v4)).bind fun t5 =>
      (f_X8_worthOf N c_wish v4 t5).bind fun r6 =>
      (if r6 ≤ r3 then
        (if r3 ≤ r6 then
          f_X8_votes_22 N c_askers c_told c_wish n v1 v2 (v3 + 0) (v4 + 1)
        else
          f_X8_votes_22 N c_askers c_told c_wish n v1 v2 (v3 + (-1 : Int32)) (v4 + 1))
      else
        f_X8_votes_22 N c_askers c_told c_wish n v1 v2 (v3 + 1) (v4 + 1)))
set_option maxHeartbeats 4000000 in
set_option maxRecDepth 100000 in
theorem g_X8_votes_22 {κ : KC} {ω : KW} {A : Nat → Prop} {ad : Nat → Nat} {u_places : Int32} {u_above : Int64} {u_below : Int64} {u_full : Int32} {u_firsts : Int32} {u_freed : Int32} {u_whole : Int64} {N : Nat} {c_askers : Int32} {c_told : Nat → Int32} {c_wish : Nat → Int32}  {res : Int32} : ∀ (n : Nat) {v1 : Int32} {v2 : Int32} {v3 : Int32} {v4 : Int32}, f_X8_votes_22 N c_askers c_told c_wish n v1 v2 v3 v4 = some res → GG mu_X8_votes κ ω A (QR κ ω A ad (some (.int res)) (w_X8_votes c_askers c_told c_wish u_places u_above u_below u_full u_firsts u_freed u_whole)) ad 0 0 22 (w_X8_votes c_askers c_told c_wish u_places u_above u_below u_full u_firsts u_freed u_whole) [some (.ref 0), some (.int v1), some (.int v2), some (.int v3), some (.int v4), none, none] [] := by
  intro n
  induction n with
  | zero => intro v1 v2 v3 v4 hf; exact ob_0 hf
  | succ n ih =>
    intro v1 v2 v3 v4 hf
    refine G_iload dX8_votes_22 rfl ?_
    refine G_aload_n dX8_votes_24 rfl rfl ?_
    refine G_get (v := .int c_askers) F_X8_89 dX8_votes_25 rfl rfl ?_
    refine G_icmp_ge 103 dX8_votes_28 (by decide) (fun h1 => ?_) (fun h1 => ?_)
    · replace hf := ob_t h1 hf
      refine G_iload_n dX8_votes_103 rfl rfl ?_
      obtain rfl := os hf
      exact G_ireturn dX8_votes_104 rfl
    · replace hf := ob_f h1 hf
      refine G_aload_n dX8_votes_31 rfl rfl ?_
      refine G_iload dX8_votes_32 rfl ?_
      refine G_aload_n dX8_votes_34 rfl rfl ?_
      refine G_get (v := .ref 1) F_X8_16 dX8_votes_35 rfl rfl ?_
      refine G_bipush 8 dX8_votes_38 (by decide) ?_
      refine G_iload_n dX8_votes_40 rfl rfl ?_
      refine G_imul dX8_votes_41 ?_
      refine G_iload dX8_votes_42 rfl ?_
      refine G_iadd dX8_votes_44 ?_
      obtain ⟨t2, ht2, hf⟩ := ob hf
      refine G_iald dX8_votes_45 rfl ht2 ?_
      obtain ⟨r3, hc4, hf⟩ := ob hf
      refine G_callV (μ2 := mu_X8_worthOf) (As := [.int v4, .int t2]) (w2 := (w_X8_votes c_askers c_told c_wish u_places u_above u_below u_full u_firsts u_freed u_whole)) (wc := (w_X8_worthOf c_wish c_askers u_places u_above u_below u_full u_firsts u_freed u_whole)) (wc2 := (w_X8_worthOf c_wish c_askers u_places u_above u_below u_full u_firsts u_freed u_whole)) (rest := []) (rv := [.int r3]) [0, 2] [1000, 1, 1001, 1002, 1003, 1004, 1005, 1006, 1007, 1008, 1009, 1010, 1011, 1012, 1013, 1014, 1015, 1016, 1017, 1018] [1] [1, 0, 2] (c_X8_worthOf hc4) cw_X8_worthOf m_X8_111 dX8_votes_46 rfl ⟨leb rfl, leb rfl⟩ ⟨rfl, rfl⟩ rfl ⟨_, rfl, rfl⟩ (Fit.mk rfl rfl rfl) rfl (leb rfl) (ROsub.nil rfl rfl) rfl ?_
      change GG _ _ _ _ _ _ _ _ _ (w_X8_votes c_askers c_told c_wish u_places u_above u_below u_full u_firsts u_freed u_whole) [some (.ref 0), some (.int v1), some (.int v2), some (.int v3), some (.int v4), none, none] [.int r3]
      refine G_istore dX8_votes_49 (ltb rfl) ?_
      change GG _ _ _ _ _ _ _ _ _ _ [some (.ref 0), some (.int v1), some (.int v2), some (.int v3), some (.int v4), some (.int r3), none] _
      refine G_aload_n dX8_votes_51 rfl rfl ?_
      refine G_iload dX8_votes_52 rfl ?_
      refine G_aload_n dX8_votes_54 rfl rfl ?_
      refine G_get (v := .ref 1) F_X8_16 dX8_votes_55 rfl rfl ?_
      refine G_bipush 8 dX8_votes_58 (by decide) ?_
      refine G_iload_n dX8_votes_60 rfl rfl ?_
      refine G_imul dX8_votes_61 ?_
      refine G_iload dX8_votes_62 rfl ?_
      refine G_iadd dX8_votes_64 ?_
      obtain ⟨t5, ht5, hf⟩ := ob hf
      refine G_iald dX8_votes_65 rfl ht5 ?_
      obtain ⟨r6, hc7, hf⟩ := ob hf
      refine G_callV (μ2 := mu_X8_worthOf) (As := [.int v4, .int t5]) (w2 := (w_X8_votes c_askers c_told c_wish u_places u_above u_below u_full u_firsts u_freed u_whole)) (wc := (w_X8_worthOf c_wish c_askers u_places u_above u_below u_full u_firsts u_freed u_whole)) (wc2 := (w_X8_worthOf c_wish c_askers u_places u_above u_below u_full u_firsts u_freed u_whole)) (rest := []) (rv := [.int r6]) [0, 2] [1000, 1, 1001, 1002, 1003, 1004, 1005, 1006, 1007, 1008, 1009, 1010, 1011, 1012, 1013, 1014, 1015, 1016, 1017, 1018] [1] [1, 0, 2] (c_X8_worthOf hc7) cw_X8_worthOf m_X8_111 dX8_votes_66 rfl ⟨leb rfl, leb rfl⟩ ⟨rfl, rfl⟩ rfl ⟨_, rfl, rfl⟩ (Fit.mk rfl rfl rfl) rfl (leb rfl) (ROsub.nil rfl rfl) rfl ?_
      change GG _ _ _ _ _ _ _ _ _ (w_X8_votes c_askers c_told c_wish u_places u_above u_below u_full u_firsts u_freed u_whole) [some (.ref 0), some (.int v1), some (.int v2), some (.int v3), some (.int v4), some (.int r3), none] [.int r6]
      refine G_istore dX8_votes_69 (ltb rfl) ?_
      change GG _ _ _ _ _ _ _ _ _ _ [some (.ref 0), some (.int v1), some (.int v2), some (.int v3), some (.int v4), some (.int r3), some (.int r6)] _
      refine G_iload_n dX8_votes_71 rfl rfl ?_
      refine G_iload dX8_votes_72 rfl ?_
      refine G_iload dX8_votes_74 rfl ?_
      refine G_icmp_ge 83 dX8_votes_76 (by decide) (fun h8 => ?_) (fun h8 => ?_)
      · replace hf := ob_t h8 hf
        refine G_iload dX8_votes_83 rfl ?_
        refine G_iload dX8_votes_85 rfl ?_
        refine G_icmp_le 94 dX8_votes_87 (by decide) (fun h9 => ?_) (fun h9 => ?_)
        · replace hf := ob_t h9 hf
          refine G_iconst 0 dX8_votes_94 (by decide) ?_
          refine G_iadd dX8_votes_95 ?_
          refine G_istore_n dX8_votes_96 rfl (ltb rfl) ?_
          change GG _ _ _ _ _ _ _ _ _ _ [some (.ref 0), some (.int v1), some (.int v2), some (.int (v3 + 0)), some (.int v4), some (.int r3), some (.int r6)] _
          refine G_iinc 1 dX8_votes_97 (by decide) rfl (ltb rfl) ?_
          change GG _ _ _ _ _ _ _ _ _ _ [some (.ref 0), some (.int v1), some (.int v2), some (.int (v3 + 0)), some (.int (v4 + 1)), some (.int r3), some (.int r6)] _
          refine G_goto 22 dX8_votes_100 (by decide) ?_
          refine GG.sb (lv2 := [some (.ref 0), some (.int v1), some (.int v2), some (.int (v3 + 0)), some (.int (v4 + 1)), none, none]) ?_ (lvS_v rfl (lvS_v rfl (lvS_v rfl (lvS_v rfl (lvS_v rfl (lvS_n (lvS_n (lvS_e))))))))
          exact ih hf
        · replace hf := ob_f h9 hf
          refine G_iconst (-1 : Int32) dX8_votes_90 (by decide) ?_
          refine G_goto 95 dX8_votes_91 (by decide) ?_
          refine G_iadd dX8_votes_95 ?_
          refine G_istore_n dX8_votes_96 rfl (ltb rfl) ?_
          change GG _ _ _ _ _ _ _ _ _ _ [some (.ref 0), some (.int v1), some (.int v2), some (.int (v3 + (-1 : Int32))), some (.int v4), some (.int r3), some (.int r6)] _
          refine G_iinc 1 dX8_votes_97 (by decide) rfl (ltb rfl) ?_
          change GG _ _ _ _ _ _ _ _ _ _ [some (.ref 0), some (.int v1), some (.int v2), some (.int (v3 + (-1 : Int32))), some (.int (v4 + 1)), some (.int r3), some (.int r6)] _
          refine G_goto 22 dX8_votes_100 (by decide) ?_
          refine GG.sb (lv2 := [some (.ref 0), some (.int v1), some (.int v2), some (.int (v3 + (-1 : Int32))), some (.int (v4 + 1)), none, none]) ?_ (lvS_v rfl (lvS_v rfl (lvS_v rfl (lvS_v rfl (lvS_v rfl (lvS_n (lvS_n (lvS_e))))))))
          exact ih hf
      · replace hf := ob_f h8 hf
        refine G_iconst 1 dX8_votes_79 (by decide) ?_
        refine G_goto 95 dX8_votes_80 (by decide) ?_
        refine G_iadd dX8_votes_95 ?_
        refine G_istore_n dX8_votes_96 rfl (ltb rfl) ?_
        change GG _ _ _ _ _ _ _ _ _ _ [some (.ref 0), some (.int v1), some (.int v2), some (.int (v3 + 1)), some (.int v4), some (.int r3), some (.int r6)] _
        refine G_iinc 1 dX8_votes_97 (by decide) rfl (ltb rfl) ?_
        change GG _ _ _ _ _ _ _ _ _ _ [some (.ref 0), some (.int v1), some (.int v2), some (.int (v3 + 1)), some (.int (v4 + 1)), some (.int r3), some (.int r6)] _
        refine G_goto 22 dX8_votes_100 (by decide) ?_
        refine GG.sb (lv2 := [some (.ref 0), some (.int v1), some (.int v2), some (.int (v3 + 1)), some (.int (v4 + 1)), none, none]) ?_ (lvS_v rfl (lvS_v rfl (lvS_v rfl (lvS_v rfl (lvS_v rfl (lvS_n (lvS_n (lvS_e))))))))
        exact ih hf
def f_X8_votes (N : Nat) (c_askers : Int32) (c_told : Nat → Int32) (c_wish : Nat → Int32) (a1 : Int32) (a2 : Int32) : Option (Int32) :=
  (f_X8_isTold N a1).bind fun r1 =>
  (if r1 = 0 then
    some (-100 : Int32)
  else
    (f_X8_isTold N a2).bind fun r4 =>
    (if r4 = 0 then
      some (-100 : Int32)
    else
      f_X8_votes_22 N c_askers c_told c_wish N a1 a2 0 0))
set_option maxHeartbeats 4000000 in
set_option maxRecDepth 100000 in
theorem c_X8_votes {N : Nat} {c_askers : Int32} {c_told : Nat → Int32} {c_wish : Nat → Int32}  {u_places : Int32} {u_above : Int64} {u_below : Int64} {u_full : Int32} {u_firsts : Int32} {u_freed : Int32} {u_whole : Int64} {a1 : Int32} {a2 : Int32} {res : Int32} (hf : f_X8_votes N c_askers c_told c_wish a1 a2 = some res) : Con mu_X8_votes [.ref 0, .int a1, .int a2] (w_X8_votes c_askers c_told c_wish u_places u_above u_below u_full u_firsts u_freed u_whole) (some (.int res)) (w_X8_votes c_askers c_told c_wish u_places u_above u_below u_full u_firsts u_freed u_whole) := by
  refine Con.mk (show plainName RX8 = true by decide +kernel) (leb rfl) (fun κ ω A ad => ?_)
  change GG mu_X8_votes κ ω A (QR κ ω A ad (some (.int res)) (w_X8_votes c_askers c_told c_wish u_places u_above u_below u_full u_firsts u_freed u_whole)) ad 0 0 0 (w_X8_votes c_askers c_told c_wish u_places u_above u_below u_full u_firsts u_freed u_whole) [some (.ref 0), some (.int a1), some (.int a2), none, none, none, none] []
  refine G_iload_n dX8_votes_0 rfl rfl ?_
  obtain ⟨r1, hc2, hf⟩ := ob hf
  refine G_callS (μ2 := mu_X8_isTold) (As := [.int a1]) (w2 := (w_X8_votes c_askers c_told c_wish u_places u_above u_below u_full u_firsts u_freed u_whole)) (wc := []) (wc2 := []) (rest := []) (rv := [.int r1]) [] [] [0, 1, 2] [0, 1, 2] (c_X8_isTold hc2) cw_X8_isTold m_X8_127 rfl dX8_votes_1 rfl ⟨leb rfl, leb rfl⟩ ⟨rfl, rfl⟩ (Fit.mk rfl rfl rfl) rfl (leb rfl) (ROsub.nil rfl rfl) rfl ?_
  change GG _ _ _ _ _ _ _ _ _ (w_X8_votes c_askers c_told c_wish u_places u_above u_below u_full u_firsts u_freed u_whole) [some (.ref 0), some (.int a1), some (.int a2), none, none, none, none] [.int r1]
  refine G_if_eq 14 dX8_votes_4 (by decide) (fun h3 => ?_) (fun h3 => ?_)
  · replace hf := ob_t h3 hf
    refine G_bipush (-100 : Int32) dX8_votes_14 (by decide) ?_
    obtain rfl := os hf
    exact G_ireturn dX8_votes_16 rfl
  · replace hf := ob_f h3 hf
    refine G_iload_n dX8_votes_7 rfl rfl ?_
    obtain ⟨r4, hc5, hf⟩ := ob hf
    refine G_callS (μ2 := mu_X8_isTold) (As := [.int a2]) (w2 := (w_X8_votes c_askers c_told c_wish u_places u_above u_below u_full u_firsts u_freed u_whole)) (wc := []) (wc2 := []) (rest := []) (rv := [.int r4]) [] [] [0, 1, 2] [0, 1, 2] (c_X8_isTold hc5) cw_X8_isTold m_X8_127 rfl dX8_votes_8 rfl ⟨leb rfl, leb rfl⟩ ⟨rfl, rfl⟩ (Fit.mk rfl rfl rfl) rfl (leb rfl) (ROsub.nil rfl rfl) rfl ?_
    change GG _ _ _ _ _ _ _ _ _ (w_X8_votes c_askers c_told c_wish u_places u_above u_below u_full u_firsts u_freed u_whole) [some (.ref 0), some (.int a1), some (.int a2), none, none, none, none] [.int r4]
    refine G_if_ne 17 dX8_votes_11 (by decide) (fun h6 => ?_) (fun h6 => ?_)
    · replace hf := ob_f h6 hf
      refine G_iconst 0 dX8_votes_17 (by decide) ?_
      refine G_istore_n dX8_votes_18 rfl (ltb rfl) ?_
      change GG _ _ _ _ _ _ _ _ _ _ [some (.ref 0), some (.int a1), some (.int a2), some (.int 0), none, none, none] _
      refine G_iconst 0 dX8_votes_19 (by decide) ?_
      refine G_istore dX8_votes_20 (ltb rfl) ?_
      change GG _ _ _ _ _ _ _ _ _ _ [some (.ref 0), some (.int a1), some (.int a2), some (.int 0), some (.int 0), none, none] _
      exact g_X8_votes_22 N hf
    · replace hf := ob_t h6 hf
      refine G_bipush (-100 : Int32) dX8_votes_14 (by decide) ?_
      obtain rfl := os hf
      exact G_ireturn dX8_votes_16 rfl
set_option maxRecDepth 20000 in
theorem dX8_margin_0 : decode cX8_margin 0 = .ok (.iload_n 1, 1) := by decide +kernel
set_option maxRecDepth 20000 in
theorem dX8_margin_1 : decode cX8_margin 1 = .ok (.invokestatic 127, 3) := by decide +kernel
set_option maxRecDepth 20000 in
theorem dX8_margin_4 : decode cX8_margin 4 = .ok (.ifCond .eq 12, 3) := by decide +kernel
set_option maxRecDepth 20000 in
theorem dX8_margin_7 : decode cX8_margin 7 = .ok (.aload_n 0, 1) := by decide +kernel
set_option maxRecDepth 20000 in
theorem dX8_margin_8 : decode cX8_margin 8 = .ok (.iload_n 1, 1) := by decide +kernel
set_option maxRecDepth 20000 in
theorem dX8_margin_9 : decode cX8_margin 9 = .ok (.iconst 0, 1) := by decide +kernel
set_option maxRecDepth 20000 in
theorem dX8_margin_10 : decode cX8_margin 10 = .ok (.invokevirtual 154, 3) := by decide +kernel
set_option maxRecDepth 20000 in
theorem dX8_margin_13 : decode cX8_margin 13 = .ok (.goto 5, 3) := by decide +kernel
set_option maxRecDepth 20000 in
theorem dX8_margin_16 : decode cX8_margin 16 = .ok (.bipush (-2), 2) := by decide +kernel
set_option maxRecDepth 20000 in
theorem dX8_margin_18 : decode cX8_margin 18 = .ok (.ireturn, 1) := by decide +kernel
def f_X8_margin (N : Nat) (c_askers : Int32) (c_places : Int32) (c_seats : Nat → Int32) (c_told : Nat → Int32) (c_wish : Nat → Int32) (c_full : Int32) (c_cost : Nat → Int64) (c_found : Nat → Int32) (c_least : Nat → Int64) (c_weight : Nat → Int32) (a1 : Int32) : Option (Int32 × Int32 × (Nat → Int64) × (Nat → Int32) × (Nat → Int64) × (Nat → Int32)) :=
  (f_X8_isTold N a1).bind fun r1 =>
  (if r1 = 0 then
    some ((-2 : Int32), c_full, c_cost, c_found, c_least, c_weight)
  else
    (f_X8_findBeater N c_askers c_places c_seats c_told c_wish c_full c_cost c_found c_least c_weight a1 0).bind fun (r4, o5, o6, o7, o8, o9) =>
    some (r4, o5, o6, o7, o8, o9))
set_option maxHeartbeats 4000000 in
set_option maxRecDepth 100000 in
theorem c_X8_margin {N : Nat} {c_askers : Int32} {c_places : Int32} {c_seats : Nat → Int32} {c_told : Nat → Int32} {c_wish : Nat → Int32} {c_full : Int32} {c_cost : Nat → Int64} {c_found : Nat → Int32} {c_least : Nat → Int64} {c_weight : Nat → Int32} {u_above : Int64} {u_below : Int64} {u_firsts : Int32} {u_freed : Int32} {u_whole : Int64} {a1 : Int32} {res : Int32 × Int32 × (Nat → Int64) × (Nat → Int32) × (Nat → Int64) × (Nat → Int32)} (hf : f_X8_margin N c_askers c_places c_seats c_told c_wish c_full c_cost c_found c_least c_weight a1 = some res) : Con mu_X8_margin [.ref 0, .int a1] (w_X8_margin c_askers c_places c_full c_cost c_found c_least c_seats c_told c_weight c_wish u_above u_below u_firsts u_freed u_whole) (some (.int res.1)) (w_X8_margin c_askers c_places res.2.1 res.2.2.1 res.2.2.2.1 res.2.2.2.2.1 c_seats c_told res.2.2.2.2.2 c_wish u_above u_below u_firsts u_freed u_whole) := by
  refine Con.mk (show plainName RX8 = true by decide +kernel) (leb rfl) (fun κ ω A ad => ?_)
  change GG mu_X8_margin κ ω A (QR κ ω A ad (some (.int res.1)) (w_X8_margin c_askers c_places res.2.1 res.2.2.1 res.2.2.2.1 res.2.2.2.2.1 c_seats c_told res.2.2.2.2.2 c_wish u_above u_below u_firsts u_freed u_whole)) ad 0 0 0 (w_X8_margin c_askers c_places c_full c_cost c_found c_least c_seats c_told c_weight c_wish u_above u_below u_firsts u_freed u_whole) [some (.ref 0), some (.int a1)] []
  refine G_iload_n dX8_margin_0 rfl rfl ?_
  obtain ⟨r1, hc2, hf⟩ := ob hf
  refine G_callS (μ2 := mu_X8_isTold) (As := [.int a1]) (w2 := (w_X8_margin c_askers c_places c_full c_cost c_found c_least c_seats c_told c_weight c_wish u_above u_below u_firsts u_freed u_whole)) (wc := []) (wc2 := []) (rest := []) (rv := [.int r1]) [] [] [0, 1, 2, 3, 4, 5, 6, 7] [0, 1, 2, 3, 4, 5, 6, 7] (c_X8_isTold hc2) cw_X8_isTold m_X8_127 rfl dX8_margin_1 rfl ⟨leb rfl, leb rfl⟩ ⟨rfl, rfl⟩ (Fit.mk rfl rfl rfl) rfl (leb rfl) (ROsub.nil rfl rfl) rfl ?_
  change GG _ _ _ _ _ _ _ _ _ (w_X8_margin c_askers c_places c_full c_cost c_found c_least c_seats c_told c_weight c_wish u_above u_below u_firsts u_freed u_whole) [some (.ref 0), some (.int a1)] [.int r1]
  refine G_if_eq 16 dX8_margin_4 (by decide) (fun h3 => ?_) (fun h3 => ?_)
  · replace hf := ob_t h3 hf
    refine G_bipush (-2 : Int32) dX8_margin_16 (by decide) ?_
    obtain rfl := os hf
    exact G_ireturn dX8_margin_18 rfl
  · replace hf := ob_f h3 hf
    refine G_aload_n dX8_margin_7 rfl rfl ?_
    refine G_iload_n dX8_margin_8 rfl rfl ?_
    refine G_iconst 0 dX8_margin_9 (by decide) ?_
    obtain ⟨⟨r4, o5, o6, o7, o8, o9⟩, hc10, hf⟩ := ob hf
    refine G_callV (μ2 := mu_X8_findBeater) (As := [.int a1, .int 0]) (w2 := (w_X8_margin c_askers c_places o5 o6 o7 o8 c_seats c_told o9 c_wish u_above u_below u_firsts u_freed u_whole)) (wc := (w_X8_findBeater c_askers c_places c_full c_cost c_found c_least c_seats c_told c_weight c_wish u_above u_below u_firsts u_freed u_whole)) (wc2 := (w_X8_findBeater c_askers c_places o5 o6 o7 o8 c_seats c_told o9 c_wish u_above u_below u_firsts u_freed u_whole)) (rest := []) (rv := [.int r4]) [0, 1, 2, 3, 4, 5, 6, 7] [1000, 1001, 1002, 1003, 1004, 1005, 1006, 1007, 1008, 1009, 1010, 1011, 1012, 1013] [] [0, 1, 2, 3, 4, 5, 6, 7] (c_X8_findBeater hc10) cw_X8_findBeater m_X8_154 dX8_margin_10 rfl ⟨leb rfl, leb rfl⟩ ⟨rfl, rfl⟩ rfl ⟨_, rfl, rfl⟩ (Fit.mk rfl rfl rfl) rfl (leb rfl) (ROsub.nil rfl rfl) rfl ?_
    change GG _ _ _ _ _ _ _ _ _ (w_X8_margin c_askers c_places o5 o6 o7 o8 c_seats c_told o9 c_wish u_above u_below u_firsts u_freed u_whole) [some (.ref 0), some (.int a1)] [.int r4]
    refine G_goto 18 dX8_margin_13 (by decide) ?_
    obtain rfl := os hf
    exact G_ireturn dX8_margin_18 rfl
set_option maxRecDepth 20000 in
theorem dX8_beater_0 : decode cX8_beater 0 = .ok (.iload_n 1, 1) := by decide +kernel
set_option maxRecDepth 20000 in
theorem dX8_beater_1 : decode cX8_beater 1 = .ok (.invokestatic 127, 3) := by decide +kernel
set_option maxRecDepth 20000 in
theorem dX8_beater_4 : decode cX8_beater 4 = .ok (.ifCond .eq 11, 3) := by decide +kernel
set_option maxRecDepth 20000 in
theorem dX8_beater_7 : decode cX8_beater 7 = .ok (.aload_n 0, 1) := by decide +kernel
set_option maxRecDepth 20000 in
theorem dX8_beater_8 : decode cX8_beater 8 = .ok (.iload_n 2, 1) := by decide +kernel
set_option maxRecDepth 20000 in
theorem dX8_beater_9 : decode cX8_beater 9 = .ok (.invokevirtual 108, 3) := by decide +kernel
set_option maxRecDepth 20000 in
theorem dX8_beater_12 : decode cX8_beater 12 = .ok (.ifCond .ne 6, 3) := by decide +kernel
set_option maxRecDepth 20000 in
theorem dX8_beater_15 : decode cX8_beater 15 = .ok (.bipush (-2), 2) := by decide +kernel
set_option maxRecDepth 20000 in
theorem dX8_beater_17 : decode cX8_beater 17 = .ok (.ireturn, 1) := by decide +kernel
set_option maxRecDepth 20000 in
theorem dX8_beater_18 : decode cX8_beater 18 = .ok (.aload_n 0, 1) := by decide +kernel
set_option maxRecDepth 20000 in
theorem dX8_beater_19 : decode cX8_beater 19 = .ok (.iload_n 1, 1) := by decide +kernel
set_option maxRecDepth 20000 in
theorem dX8_beater_20 : decode cX8_beater 20 = .ok (.iconst 0, 1) := by decide +kernel
set_option maxRecDepth 20000 in
theorem dX8_beater_21 : decode cX8_beater 21 = .ok (.invokevirtual 154, 3) := by decide +kernel
set_option maxRecDepth 20000 in
theorem dX8_beater_24 : decode cX8_beater 24 = .ok (.pop, 1) := by decide +kernel
set_option maxRecDepth 20000 in
theorem dX8_beater_25 : decode cX8_beater 25 = .ok (.aload_n 0, 1) := by decide +kernel
set_option maxRecDepth 20000 in
theorem dX8_beater_26 : decode cX8_beater 26 = .ok (.getfield 27, 3) := by decide +kernel
set_option maxRecDepth 20000 in
theorem dX8_beater_29 : decode cX8_beater 29 = .ok (.iload_n 2, 1) := by decide +kernel
set_option maxRecDepth 20000 in
theorem dX8_beater_30 : decode cX8_beater 30 = .ok (.iaload, 1) := by decide +kernel
set_option maxRecDepth 20000 in
theorem dX8_beater_31 : decode cX8_beater 31 = .ok (.iconst 1, 1) := by decide +kernel
set_option maxRecDepth 20000 in
theorem dX8_beater_32 : decode cX8_beater 32 = .ok (.isub, 1) := by decide +kernel
set_option maxRecDepth 20000 in
theorem dX8_beater_33 : decode cX8_beater 33 = .ok (.ireturn, 1) := by decide +kernel
def f_X8_beater (N : Nat) (c_askers : Int32) (c_places : Int32) (c_seats : Nat → Int32) (c_told : Nat → Int32) (c_wish : Nat → Int32) (c_full : Int32) (c_cost : Nat → Int64) (c_found : Nat → Int32) (c_least : Nat → Int64) (c_weight : Nat → Int32) (a1 : Int32) (a2 : Int32) : Option (Int32 × Int32 × (Nat → Int64) × (Nat → Int32) × (Nat → Int64) × (Nat → Int32)) :=
  (f_X8_isTold N a1).bind fun r1 =>
  (if r1 = 0 then
    some ((-2 : Int32), c_full, c_cost, c_found, c_least, c_weight)
  else
    (f_X8_isAsker N c_askers a2).bind fun r4 =>
    (if r4 = 0 then
      some ((-2 : Int32), c_full, c_cost, c_found, c_least, c_weight)
    else
      (f_X8_findBeater N c_askers c_places c_seats c_told c_wish c_full c_cost c_found c_least c_weight a1 0).bind fun (r7, o8, o9, o10, o11, o12) =>
      (rdI 8 o10 a2).bind fun t14 =>
      some (t14 - 1, o8, o9, o10, o11, o12)))
set_option maxHeartbeats 4000000 in
set_option maxRecDepth 100000 in
theorem c_X8_beater {N : Nat} {c_askers : Int32} {c_places : Int32} {c_seats : Nat → Int32} {c_told : Nat → Int32} {c_wish : Nat → Int32} {c_full : Int32} {c_cost : Nat → Int64} {c_found : Nat → Int32} {c_least : Nat → Int64} {c_weight : Nat → Int32} {u_above : Int64} {u_below : Int64} {u_firsts : Int32} {u_freed : Int32} {u_whole : Int64} {a1 : Int32} {a2 : Int32} {res : Int32 × Int32 × (Nat → Int64) × (Nat → Int32) × (Nat → Int64) × (Nat → Int32)} (hf : f_X8_beater N c_askers c_places c_seats c_told c_wish c_full c_cost c_found c_least c_weight a1 a2 = some res) : Con mu_X8_beater [.ref 0, .int a1, .int a2] (w_X8_beater c_askers c_places c_full c_cost c_found c_least c_seats c_told c_weight c_wish u_above u_below u_firsts u_freed u_whole) (some (.int res.1)) (w_X8_beater c_askers c_places res.2.1 res.2.2.1 res.2.2.2.1 res.2.2.2.2.1 c_seats c_told res.2.2.2.2.2 c_wish u_above u_below u_firsts u_freed u_whole) := by
  refine Con.mk (show plainName RX8 = true by decide +kernel) (leb rfl) (fun κ ω A ad => ?_)
  change GG mu_X8_beater κ ω A (QR κ ω A ad (some (.int res.1)) (w_X8_beater c_askers c_places res.2.1 res.2.2.1 res.2.2.2.1 res.2.2.2.2.1 c_seats c_told res.2.2.2.2.2 c_wish u_above u_below u_firsts u_freed u_whole)) ad 0 0 0 (w_X8_beater c_askers c_places c_full c_cost c_found c_least c_seats c_told c_weight c_wish u_above u_below u_firsts u_freed u_whole) [some (.ref 0), some (.int a1), some (.int a2)] []
  refine G_iload_n dX8_beater_0 rfl rfl ?_
  obtain ⟨r1, hc2, hf⟩ := ob hf
  refine G_callS (μ2 := mu_X8_isTold) (As := [.int a1]) (w2 := (w_X8_beater c_askers c_places c_full c_cost c_found c_least c_seats c_told c_weight c_wish u_above u_below u_firsts u_freed u_whole)) (wc := []) (wc2 := []) (rest := []) (rv := [.int r1]) [] [] [0, 1, 2, 3, 4, 5, 6, 7] [0, 1, 2, 3, 4, 5, 6, 7] (c_X8_isTold hc2) cw_X8_isTold m_X8_127 rfl dX8_beater_1 rfl ⟨leb rfl, leb rfl⟩ ⟨rfl, rfl⟩ (Fit.mk rfl rfl rfl) rfl (leb rfl) (ROsub.nil rfl rfl) rfl ?_
  change GG _ _ _ _ _ _ _ _ _ (w_X8_beater c_askers c_places c_full c_cost c_found c_least c_seats c_told c_weight c_wish u_above u_below u_firsts u_freed u_whole) [some (.ref 0), some (.int a1), some (.int a2)] [.int r1]
  refine G_if_eq 15 dX8_beater_4 (by decide) (fun h3 => ?_) (fun h3 => ?_)
  · replace hf := ob_t h3 hf
    refine G_bipush (-2 : Int32) dX8_beater_15 (by decide) ?_
    obtain rfl := os hf
    exact G_ireturn dX8_beater_17 rfl
  · replace hf := ob_f h3 hf
    refine G_aload_n dX8_beater_7 rfl rfl ?_
    refine G_iload_n dX8_beater_8 rfl rfl ?_
    obtain ⟨r4, hc5, hf⟩ := ob hf
    refine G_callV (μ2 := mu_X8_isAsker) (As := [.int a2]) (w2 := (w_X8_beater c_askers c_places c_full c_cost c_found c_least c_seats c_told c_weight c_wish u_above u_below u_firsts u_freed u_whole)) (wc := (w_X8_isAsker c_askers c_places u_above u_below c_full u_firsts u_freed u_whole)) (wc2 := (w_X8_isAsker c_askers c_places u_above u_below c_full u_firsts u_freed u_whole)) (rest := []) (rv := [.int r4]) [0] [4, 7, 5, 6, 1000, 2, 1, 3, 1001, 1002, 1003, 1004, 1005, 1006, 1007, 1008, 1009, 1010, 1011, 1012, 1013] [1, 2, 3, 4, 5, 6, 7] [7, 0, 1, 2, 3, 4, 5, 6] (c_X8_isAsker hc5) cw_X8_isAsker m_X8_108 dX8_beater_9 rfl ⟨leb rfl, leb rfl⟩ ⟨rfl, rfl⟩ rfl ⟨_, rfl, rfl⟩ (Fit.mk rfl rfl rfl) rfl (leb rfl) (ROsub.nil rfl rfl) rfl ?_
    change GG _ _ _ _ _ _ _ _ _ (w_X8_beater c_askers c_places c_full c_cost c_found c_least c_seats c_told c_weight c_wish u_above u_below u_firsts u_freed u_whole) [some (.ref 0), some (.int a1), some (.int a2)] [.int r4]
    refine G_if_ne 18 dX8_beater_12 (by decide) (fun h6 => ?_) (fun h6 => ?_)
    · replace hf := ob_f h6 hf
      refine G_aload_n dX8_beater_18 rfl rfl ?_
      refine G_iload_n dX8_beater_19 rfl rfl ?_
      refine G_iconst 0 dX8_beater_20 (by decide) ?_
      obtain ⟨⟨r7, o8, o9, o10, o11, o12⟩, hc13, hf⟩ := ob hf
      refine G_callV (μ2 := mu_X8_findBeater) (As := [.int a1, .int 0]) (w2 := (w_X8_beater c_askers c_places o8 o9 o10 o11 c_seats c_told o12 c_wish u_above u_below u_firsts u_freed u_whole)) (wc := (w_X8_findBeater c_askers c_places c_full c_cost c_found c_least c_seats c_told c_weight c_wish u_above u_below u_firsts u_freed u_whole)) (wc2 := (w_X8_findBeater c_askers c_places o8 o9 o10 o11 c_seats c_told o12 c_wish u_above u_below u_firsts u_freed u_whole)) (rest := []) (rv := [.int r7]) [0, 1, 2, 3, 4, 5, 6, 7] [1000, 1001, 1002, 1003, 1004, 1005, 1006, 1007, 1008, 1009, 1010, 1011, 1012, 1013] [] [0, 1, 2, 3, 4, 5, 6, 7] (c_X8_findBeater hc13) cw_X8_findBeater m_X8_154 dX8_beater_21 rfl ⟨leb rfl, leb rfl⟩ ⟨rfl, rfl⟩ rfl ⟨_, rfl, rfl⟩ (Fit.mk rfl rfl rfl) rfl (leb rfl) (ROsub.nil rfl rfl) rfl ?_
      change GG _ _ _ _ _ _ _ _ _ (w_X8_beater c_askers c_places o8 o9 o10 o11 c_seats c_told o12 c_wish u_above u_below u_firsts u_freed u_whole) [some (.ref 0), some (.int a1), some (.int a2)] [.int r7]
      refine G_pop dX8_beater_24 rfl ?_
      refine G_aload_n dX8_beater_25 rfl rfl ?_
      refine G_get (v := .ref 2) F_X8_27 dX8_beater_26 rfl rfl ?_
      refine G_iload_n dX8_beater_29 rfl rfl ?_
      obtain ⟨t14, ht14, hf⟩ := ob hf
      refine G_iald dX8_beater_30 rfl ht14 ?_
      refine G_iconst 1 dX8_beater_31 (by decide) ?_
      refine G_isub dX8_beater_32 ?_
      obtain rfl := os hf
      exact G_ireturn dX8_beater_33 rfl
    · replace hf := ob_t h6 hf
      refine G_bipush (-2 : Int32) dX8_beater_15 (by decide) ?_
      obtain rfl := os hf
      exact G_ireturn dX8_beater_17 rfl
set_option maxRecDepth 20000 in
theorem dX8_better_0 : decode cX8_better 0 = .ok (.iload_n 1, 1) := by decide +kernel
set_option maxRecDepth 20000 in
theorem dX8_better_1 : decode cX8_better 1 = .ok (.invokestatic 127, 3) := by decide +kernel
set_option maxRecDepth 20000 in
theorem dX8_better_4 : decode cX8_better 4 = .ok (.ifCond .eq 12, 3) := by decide +kernel
set_option maxRecDepth 20000 in
theorem dX8_better_7 : decode cX8_better 7 = .ok (.aload_n 0, 1) := by decide +kernel
set_option maxRecDepth 20000 in
theorem dX8_better_8 : decode cX8_better 8 = .ok (.iload_n 1, 1) := by decide +kernel
set_option maxRecDepth 20000 in
theorem dX8_better_9 : decode cX8_better 9 = .ok (.iconst 1, 1) := by decide +kernel
set_option maxRecDepth 20000 in
theorem dX8_better_10 : decode cX8_better 10 = .ok (.invokevirtual 154, 3) := by decide +kernel
set_option maxRecDepth 20000 in
theorem dX8_better_13 : decode cX8_better 13 = .ok (.goto 5, 3) := by decide +kernel
set_option maxRecDepth 20000 in
theorem dX8_better_16 : decode cX8_better 16 = .ok (.bipush (-2), 2) := by decide +kernel
set_option maxRecDepth 20000 in
theorem dX8_better_18 : decode cX8_better 18 = .ok (.ireturn, 1) := by decide +kernel
def f_X8_better (N : Nat) (c_askers : Int32) (c_places : Int32) (c_seats : Nat → Int32) (c_told : Nat → Int32) (c_wish : Nat → Int32) (c_full : Int32) (c_cost : Nat → Int64) (c_found : Nat → Int32) (c_least : Nat → Int64) (c_weight : Nat → Int32) (a1 : Int32) : Option (Int32 × Int32 × (Nat → Int64) × (Nat → Int32) × (Nat → Int64) × (Nat → Int32)) :=
  (f_X8_isTold N a1).bind fun r1 =>
  (if r1 = 0 then
    some ((-2 : Int32), c_full, c_cost, c_found, c_least, c_weight)
  else
    (f_X8_findBeater N c_askers c_places c_seats c_told c_wish c_full c_cost c_found c_least c_weight a1 1).bind fun (r4, o5, o6, o7, o8, o9) =>
    some (r4, o5, o6, o7, o8, o9))
set_option maxHeartbeats 4000000 in
set_option maxRecDepth 100000 in
theorem c_X8_better {N : Nat} {c_askers : Int32} {c_places : Int32} {c_seats : Nat → Int32} {c_told : Nat → Int32} {c_wish : Nat → Int32} {c_full : Int32} {c_cost : Nat → Int64} {c_found : Nat → Int32} {c_least : Nat → Int64} {c_weight : Nat → Int32} {u_above : Int64} {u_below : Int64} {u_firsts : Int32} {u_freed : Int32} {u_whole : Int64} {a1 : Int32} {res : Int32 × Int32 × (Nat → Int64) × (Nat → Int32) × (Nat → Int64) × (Nat → Int32)} (hf : f_X8_better N c_askers c_places c_seats c_told c_wish c_full c_cost c_found c_least c_weight a1 = some res) : Con mu_X8_better [.ref 0, .int a1] (w_X8_better c_askers c_places c_full c_cost c_found c_least c_seats c_told c_weight c_wish u_above u_below u_firsts u_freed u_whole) (some (.int res.1)) (w_X8_better c_askers c_places res.2.1 res.2.2.1 res.2.2.2.1 res.2.2.2.2.1 c_seats c_told res.2.2.2.2.2 c_wish u_above u_below u_firsts u_freed u_whole) := by
  refine Con.mk (show plainName RX8 = true by decide +kernel) (leb rfl) (fun κ ω A ad => ?_)
  change GG mu_X8_better κ ω A (QR κ ω A ad (some (.int res.1)) (w_X8_better c_askers c_places res.2.1 res.2.2.1 res.2.2.2.1 res.2.2.2.2.1 c_seats c_told res.2.2.2.2.2 c_wish u_above u_below u_firsts u_freed u_whole)) ad 0 0 0 (w_X8_better c_askers c_places c_full c_cost c_found c_least c_seats c_told c_weight c_wish u_above u_below u_firsts u_freed u_whole) [some (.ref 0), some (.int a1)] []
  refine G_iload_n dX8_better_0 rfl rfl ?_
  obtain ⟨r1, hc2, hf⟩ := ob hf
  refine G_callS (μ2 := mu_X8_isTold) (As := [.int a1]) (w2 := (w_X8_better c_askers c_places c_full c_cost c_found c_least c_seats c_told c_weight c_wish u_above u_below u_firsts u_freed u_whole)) (wc := []) (wc2 := []) (rest := []) (rv := [.int r1]) [] [] [0, 1, 2, 3, 4, 5, 6, 7] [0, 1, 2, 3, 4, 5, 6, 7] (c_X8_isTold hc2) cw_X8_isTold m_X8_127 rfl dX8_better_1 rfl ⟨leb rfl, leb rfl⟩ ⟨rfl, rfl⟩ (Fit.mk rfl rfl rfl) rfl (leb rfl) (ROsub.nil rfl rfl) rfl ?_
  change GG _ _ _ _ _ _ _ _ _ (w_X8_better c_askers c_places c_full c_cost c_found c_least c_seats c_told c_weight c_wish u_above u_below u_firsts u_freed u_whole) [some (.ref 0), some (.int a1)] [.int r1]
  refine G_if_eq 16 dX8_better_4 (by decide) (fun h3 => ?_) (fun h3 => ?_)
  · replace hf := ob_t h3 hf
    refine G_bipush (-2 : Int32) dX8_better_16 (by decide) ?_
    obtain rfl := os hf
    exact G_ireturn dX8_better_18 rfl
  · replace hf := ob_f h3 hf
    refine G_aload_n dX8_better_7 rfl rfl ?_
    refine G_iload_n dX8_better_8 rfl rfl ?_
    refine G_iconst 1 dX8_better_9 (by decide) ?_
    obtain ⟨⟨r4, o5, o6, o7, o8, o9⟩, hc10, hf⟩ := ob hf
    refine G_callV (μ2 := mu_X8_findBeater) (As := [.int a1, .int 1]) (w2 := (w_X8_better c_askers c_places o5 o6 o7 o8 c_seats c_told o9 c_wish u_above u_below u_firsts u_freed u_whole)) (wc := (w_X8_findBeater c_askers c_places c_full c_cost c_found c_least c_seats c_told c_weight c_wish u_above u_below u_firsts u_freed u_whole)) (wc2 := (w_X8_findBeater c_askers c_places o5 o6 o7 o8 c_seats c_told o9 c_wish u_above u_below u_firsts u_freed u_whole)) (rest := []) (rv := [.int r4]) [0, 1, 2, 3, 4, 5, 6, 7] [1000, 1001, 1002, 1003, 1004, 1005, 1006, 1007, 1008, 1009, 1010, 1011, 1012, 1013] [] [0, 1, 2, 3, 4, 5, 6, 7] (c_X8_findBeater hc10) cw_X8_findBeater m_X8_154 dX8_better_10 rfl ⟨leb rfl, leb rfl⟩ ⟨rfl, rfl⟩ rfl ⟨_, rfl, rfl⟩ (Fit.mk rfl rfl rfl) rfl (leb rfl) (ROsub.nil rfl rfl) rfl ?_
    change GG _ _ _ _ _ _ _ _ _ (w_X8_better c_askers c_places o5 o6 o7 o8 c_seats c_told o9 c_wish u_above u_below u_firsts u_freed u_whole) [some (.ref 0), some (.int a1)] [.int r4]
    refine G_goto 18 dX8_better_13 (by decide) ?_
    obtain rfl := os hf
    exact G_ireturn dX8_better_18 rfl
set_option maxRecDepth 20000 in
theorem dX8_findPrefer_0 : decode cX8_findPrefer 0 = .ok (.aload_n 0, 1) := by decide +kernel
set_option maxRecDepth 20000 in
theorem dX8_findPrefer_1 : decode cX8_findPrefer 1 = .ok (.invokevirtual 117, 3) := by decide +kernel
set_option maxRecDepth 20000 in
theorem dX8_findPrefer_4 : decode cX8_findPrefer 4 = .ok (.iconst 0, 1) := by decide +kernel
set_option maxRecDepth 20000 in
theorem dX8_findPrefer_5 : decode cX8_findPrefer 5 = .ok (.istore_n 2, 1) := by decide +kernel
set_option maxRecDepth 20000 in
theorem dX8_findPrefer_6 : decode cX8_findPrefer 6 = .ok (.iload_n 2, 1) := by decide +kernel
set_option maxRecDepth 20000 in
theorem dX8_findPrefer_7 : decode cX8_findPrefer 7 = .ok (.ldc 22, 2) := by decide +kernel
set_option maxRecDepth 20000 in
theorem dX8_findPrefer_9 : decode cX8_findPrefer 9 = .ok (.if_icmp .ge 16, 3) := by decide +kernel
set_option maxRecDepth 20000 in
theorem dX8_findPrefer_12 : decode cX8_findPrefer 12 = .ok (.aload_n 0, 1) := by decide +kernel
set_option maxRecDepth 20000 in
theorem dX8_findPrefer_13 : decode cX8_findPrefer 13 = .ok (.getfield 36, 3) := by decide +kernel
set_option maxRecDepth 20000 in
theorem dX8_findPrefer_16 : decode cX8_findPrefer 16 = .ok (.iload_n 2, 1) := by decide +kernel
set_option maxRecDepth 20000 in
theorem dX8_findPrefer_17 : decode cX8_findPrefer 17 = .ok (.iconst (-1), 1) := by decide +kernel
set_option maxRecDepth 20000 in
theorem dX8_findPrefer_18 : decode cX8_findPrefer 18 = .ok (.iastore, 1) := by decide +kernel
set_option maxRecDepth 20000 in
theorem dX8_findPrefer_19 : decode cX8_findPrefer 19 = .ok (.iinc 2 1, 3) := by decide +kernel
set_option maxRecDepth 20000 in
theorem dX8_findPrefer_22 : decode cX8_findPrefer 22 = .ok (.goto (-16), 3) := by decide +kernel
set_option maxRecDepth 20000 in
theorem dX8_findPrefer_25 : decode cX8_findPrefer 25 = .ok (.aload_n 0, 1) := by decide +kernel
set_option maxRecDepth 20000 in
theorem dX8_findPrefer_26 : decode cX8_findPrefer 26 = .ok (.getfield 36, 3) := by decide +kernel
set_option maxRecDepth 20000 in
theorem dX8_findPrefer_29 : decode cX8_findPrefer 29 = .ok (.aload_n 0, 1) := by decide +kernel
set_option maxRecDepth 20000 in
theorem dX8_findPrefer_30 : decode cX8_findPrefer 30 = .ok (.getfield 114, 3) := by decide +kernel
set_option maxRecDepth 20000 in
theorem dX8_findPrefer_33 : decode cX8_findPrefer 33 = .ok (.iconst 0, 1) := by decide +kernel
set_option maxRecDepth 20000 in
theorem dX8_findPrefer_34 : decode cX8_findPrefer 34 = .ok (.iastore, 1) := by decide +kernel
set_option maxRecDepth 20000 in
theorem dX8_findPrefer_35 : decode cX8_findPrefer 35 = .ok (.iconst 0, 1) := by decide +kernel
set_option maxRecDepth 20000 in
theorem dX8_findPrefer_36 : decode cX8_findPrefer 36 = .ok (.istore_n 2, 1) := by decide +kernel
set_option maxRecDepth 20000 in
theorem dX8_findPrefer_37 : decode cX8_findPrefer 37 = .ok (.iload_n 2, 1) := by decide +kernel
set_option maxRecDepth 20000 in
theorem dX8_findPrefer_38 : decode cX8_findPrefer 38 = .ok (.aload_n 0, 1) := by decide +kernel
set_option maxRecDepth 20000 in
theorem dX8_findPrefer_39 : decode cX8_findPrefer 39 = .ok (.getfield 89, 3) := by decide +kernel
set_option maxRecDepth 20000 in
theorem dX8_findPrefer_42 : decode cX8_findPrefer 42 = .ok (.if_icmp .ge 251, 3) := by decide +kernel
set_option maxRecDepth 20000 in
theorem dX8_findPrefer_45 : decode cX8_findPrefer 45 = .ok (.aload_n 0, 1) := by decide +kernel
set_option maxRecDepth 20000 in
theorem dX8_findPrefer_46 : decode cX8_findPrefer 46 = .ok (.iload_n 2, 1) := by decide +kernel
set_option maxRecDepth 20000 in
theorem dX8_findPrefer_47 : decode cX8_findPrefer 47 = .ok (.aload_n 0, 1) := by decide +kernel
set_option maxRecDepth 20000 in
theorem dX8_findPrefer_48 : decode cX8_findPrefer 48 = .ok (.getfield 16, 3) := by decide +kernel
set_option maxRecDepth 20000 in
theorem dX8_findPrefer_51 : decode cX8_findPrefer 51 = .ok (.bipush 8, 2) := by decide +kernel
set_option maxRecDepth 20000 in
theorem dX8_findPrefer_53 : decode cX8_findPrefer 53 = .ok (.iload_n 1, 1) := by decide +kernel
set_option maxRecDepth 20000 in
theorem dX8_findPrefer_54 : decode cX8_findPrefer 54 = .ok (.imul, 1) := by decide +kernel
set_option maxRecDepth 20000 in
theorem dX8_findPrefer_55 : decode cX8_findPrefer 55 = .ok (.iload_n 2, 1) := by decide +kernel
set_option maxRecDepth 20000 in
theorem dX8_findPrefer_56 : decode cX8_findPrefer 56 = .ok (.iadd, 1) := by decide +kernel
set_option maxRecDepth 20000 in
theorem dX8_findPrefer_57 : decode cX8_findPrefer 57 = .ok (.iaload, 1) := by decide +kernel
set_option maxRecDepth 20000 in
theorem dX8_findPrefer_58 : decode cX8_findPrefer 58 = .ok (.invokevirtual 111, 3) := by decide +kernel
set_option maxRecDepth 20000 in
theorem dX8_findPrefer_61 : decode cX8_findPrefer 61 = .ok (.istore_n 3, 1) := by decide +kernel
set_option maxRecDepth 20000 in
theorem dX8_findPrefer_62 : decode cX8_findPrefer 62 = .ok (.iconst 0, 1) := by decide +kernel
set_option maxRecDepth 20000 in
theorem dX8_findPrefer_63 : decode cX8_findPrefer 63 = .ok (.istore 4, 2) := by decide +kernel
set_option maxRecDepth 20000 in
theorem dX8_findPrefer_65 : decode cX8_findPrefer 65 = .ok (.iload 4, 2) := by decide +kernel
set_option maxRecDepth 20000 in
theorem dX8_findPrefer_67 : decode cX8_findPrefer 67 = .ok (.ldc 22, 2) := by decide +kernel
set_option maxRecDepth 20000 in
theorem dX8_findPrefer_69 : decode cX8_findPrefer 69 = .ok (.if_icmp .ge 17, 3) := by decide +kernel
set_option maxRecDepth 20000 in
theorem dX8_findPrefer_72 : decode cX8_findPrefer 72 = .ok (.aload_n 0, 1) := by decide +kernel
set_option maxRecDepth 20000 in
theorem dX8_findPrefer_73 : decode cX8_findPrefer 73 = .ok (.getfield 39, 3) := by decide +kernel
set_option maxRecDepth 20000 in
theorem dX8_findPrefer_76 : decode cX8_findPrefer 76 = .ok (.iload 4, 2) := by decide +kernel
set_option maxRecDepth 20000 in
theorem dX8_findPrefer_78 : decode cX8_findPrefer 78 = .ok (.iconst (-1), 1) := by decide +kernel
set_option maxRecDepth 20000 in
theorem dX8_findPrefer_79 : decode cX8_findPrefer 79 = .ok (.iastore, 1) := by decide +kernel
set_option maxRecDepth 20000 in
theorem dX8_findPrefer_80 : decode cX8_findPrefer 80 = .ok (.iinc 4 1, 3) := by decide +kernel
set_option maxRecDepth 20000 in
theorem dX8_findPrefer_83 : decode cX8_findPrefer 83 = .ok (.goto (-18), 3) := by decide +kernel
set_option maxRecDepth 20000 in
theorem dX8_findPrefer_86 : decode cX8_findPrefer 86 = .ok (.iconst 0, 1) := by decide +kernel
set_option maxRecDepth 20000 in
theorem dX8_findPrefer_87 : decode cX8_findPrefer 87 = .ok (.istore 4, 2) := by decide +kernel
set_option maxRecDepth 20000 in
theorem dX8_findPrefer_89 : decode cX8_findPrefer 89 = .ok (.iload 4, 2) := by decide +kernel
set_option maxRecDepth 20000 in
theorem dX8_findPrefer_91 : decode cX8_findPrefer 91 = .ok (.iload_n 2, 1) := by decide +kernel
set_option maxRecDepth 20000 in
theorem dX8_findPrefer_92 : decode cX8_findPrefer 92 = .ok (.if_icmp .gt 165, 3) := by decide +kernel
set_option maxRecDepth 20000 in
theorem dX8_findPrefer_95 : decode cX8_findPrefer 95 = .ok (.iconst 0, 1) := by decide +kernel
set_option maxRecDepth 20000 in
theorem dX8_findPrefer_96 : decode cX8_findPrefer 96 = .ok (.istore 5, 2) := by decide +kernel
set_option maxRecDepth 20000 in
theorem dX8_findPrefer_98 : decode cX8_findPrefer 98 = .ok (.iload 5, 2) := by decide +kernel
set_option maxRecDepth 20000 in
theorem dX8_findPrefer_100 : decode cX8_findPrefer 100 = .ok (.aload_n 0, 1) := by decide +kernel
set_option maxRecDepth 20000 in
theorem dX8_findPrefer_101 : decode cX8_findPrefer 101 = .ok (.getfield 114, 3) := by decide +kernel
set_option maxRecDepth 20000 in
theorem dX8_findPrefer_104 : decode cX8_findPrefer 104 = .ok (.if_icmp .gt 147, 3) := by decide +kernel
set_option maxRecDepth 20000 in
theorem dX8_findPrefer_107 : decode cX8_findPrefer 107 = .ok (.aload_n 0, 1) := by decide +kernel
set_option maxRecDepth 20000 in
theorem dX8_findPrefer_108 : decode cX8_findPrefer 108 = .ok (.getfield 36, 3) := by decide +kernel
set_option maxRecDepth 20000 in
theorem dX8_findPrefer_111 : decode cX8_findPrefer 111 = .ok (.sipush 4096, 3) := by decide +kernel
set_option maxRecDepth 20000 in
theorem dX8_findPrefer_114 : decode cX8_findPrefer 114 = .ok (.iload 4, 2) := by decide +kernel
set_option maxRecDepth 20000 in
theorem dX8_findPrefer_116 : decode cX8_findPrefer 116 = .ok (.imul, 1) := by decide +kernel
set_option maxRecDepth 20000 in
theorem dX8_findPrefer_117 : decode cX8_findPrefer 117 = .ok (.iload 5, 2) := by decide +kernel
set_option maxRecDepth 20000 in
theorem dX8_findPrefer_119 : decode cX8_findPrefer 119 = .ok (.iadd, 1) := by decide +kernel
set_option maxRecDepth 20000 in
theorem dX8_findPrefer_120 : decode cX8_findPrefer 120 = .ok (.iaload, 1) := by decide +kernel
set_option maxRecDepth 20000 in
theorem dX8_findPrefer_121 : decode cX8_findPrefer 121 = .ok (.istore 6, 2) := by decide +kernel
set_option maxRecDepth 20000 in
theorem dX8_findPrefer_123 : decode cX8_findPrefer 123 = .ok (.iconst 0, 1) := by decide +kernel
set_option maxRecDepth 20000 in
theorem dX8_findPrefer_124 : decode cX8_findPrefer 124 = .ok (.istore 7, 2) := by decide +kernel
set_option maxRecDepth 20000 in
theorem dX8_findPrefer_126 : decode cX8_findPrefer 126 = .ok (.iload 7, 2) := by decide +kernel
set_option maxRecDepth 20000 in
theorem dX8_findPrefer_128 : decode cX8_findPrefer 128 = .ok (.aload_n 0, 1) := by decide +kernel
set_option maxRecDepth 20000 in
theorem dX8_findPrefer_129 : decode cX8_findPrefer 129 = .ok (.getfield 97, 3) := by decide +kernel
set_option maxRecDepth 20000 in
theorem dX8_findPrefer_132 : decode cX8_findPrefer 132 = .ok (.if_icmp .gt 113, 3) := by decide +kernel
set_option maxRecDepth 20000 in
theorem dX8_findPrefer_135 : decode cX8_findPrefer 135 = .ok (.iload 6, 2) := by decide +kernel
set_option maxRecDepth 20000 in
theorem dX8_findPrefer_137 : decode cX8_findPrefer 137 = .ok (.iconst (-1), 1) := by decide +kernel
set_option maxRecDepth 20000 in
theorem dX8_findPrefer_138 : decode cX8_findPrefer 138 = .ok (.if_icmp .eq 107, 3) := by decide +kernel
set_option maxRecDepth 20000 in
theorem dX8_findPrefer_141 : decode cX8_findPrefer 141 = .ok (.aload_n 0, 1) := by decide +kernel
set_option maxRecDepth 20000 in
theorem dX8_findPrefer_142 : decode cX8_findPrefer 142 = .ok (.iload_n 2, 1) := by decide +kernel
set_option maxRecDepth 20000 in
theorem dX8_findPrefer_143 : decode cX8_findPrefer 143 = .ok (.iload 7, 2) := by decide +kernel
set_option maxRecDepth 20000 in
theorem dX8_findPrefer_145 : decode cX8_findPrefer 145 = .ok (.iload 5, 2) := by decide +kernel
set_option maxRecDepth 20000 in
theorem dX8_findPrefer_147 : decode cX8_findPrefer 147 = .ok (.invokevirtual 120, 3) := by decide +kernel
set_option maxRecDepth 20000 in
theorem dX8_findPrefer_150 : decode cX8_findPrefer 150 = .ok (.istore 8, 2) := by decide +kernel
set_option maxRecDepth 20000 in
theorem dX8_findPrefer_152 : decode cX8_findPrefer 152 = .ok (.iload 8, 2) := by decide +kernel
set_option maxRecDepth 20000 in
theorem dX8_findPrefer_154 : decode cX8_findPrefer 154 = .ok (.iconst (-1), 1) := by decide +kernel
set_option maxRecDepth 20000 in
theorem dX8_findPrefer_155 : decode cX8_findPrefer 155 = .ok (.if_icmp .eq 84, 3) := by decide +kernel
set_option maxRecDepth 20000 in
theorem dX8_findPrefer_158 : decode cX8_findPrefer 158 = .ok (.aload_n 0, 1) := by decide +kernel
set_option maxRecDepth 20000 in
theorem dX8_findPrefer_159 : decode cX8_findPrefer 159 = .ok (.iload_n 2, 1) := by decide +kernel
set_option maxRecDepth 20000 in
theorem dX8_findPrefer_160 : decode cX8_findPrefer 160 = .ok (.iload 7, 2) := by decide +kernel
set_option maxRecDepth 20000 in
theorem dX8_findPrefer_162 : decode cX8_findPrefer 162 = .ok (.invokevirtual 111, 3) := by decide +kernel
set_option maxRecDepth 20000 in
theorem dX8_findPrefer_165 : decode cX8_findPrefer 165 = .ok (.istore 9, 2) := by decide +kernel
set_option maxRecDepth 20000 in
theorem dX8_findPrefer_167 : decode cX8_findPrefer 167 = .ok (.sipush 4096, 3) := by decide +kernel
set_option maxRecDepth 20000 in
theorem dX8_findPrefer_170 : decode cX8_findPrefer 170 = .ok (.iload 9, 2) := by decide +kernel
set_option maxRecDepth 20000 in
theorem dX8_findPrefer_172 : decode cX8_findPrefer 172 = .ok (.iload_n 3, 1) := by decide +kernel
set_option maxRecDepth 20000 in
theorem dX8_findPrefer_173 : decode cX8_findPrefer 173 = .ok (.if_icmp .le 10, 3) := by decide +kernel
set_option maxRecDepth 20000 in
theorem dX8_findPrefer_176 : decode cX8_findPrefer 176 = .ok (.iload 4, 2) := by decide +kernel
set_option maxRecDepth 20000 in
theorem dX8_findPrefer_178 : decode cX8_findPrefer 178 = .ok (.iconst 1, 1) := by decide +kernel
set_option maxRecDepth 20000 in
theorem dX8_findPrefer_179 : decode cX8_findPrefer 179 = .ok (.iadd, 1) := by decide +kernel
set_option maxRecDepth 20000 in
theorem dX8_findPrefer_180 : decode cX8_findPrefer 180 = .ok (.goto 5, 3) := by decide +kernel
set_option maxRecDepth 20000 in
theorem dX8_findPrefer_183 : decode cX8_findPrefer 183 = .ok (.iload 4, 2) := by decide +kernel
set_option maxRecDepth 20000 in
theorem dX8_findPrefer_185 : decode cX8_findPrefer 185 = .ok (.imul, 1) := by decide +kernel
set_option maxRecDepth 20000 in
theorem dX8_findPrefer_186 : decode cX8_findPrefer 186 = .ok (.iload 8, 2) := by decide +kernel
set_option maxRecDepth 20000 in
theorem dX8_findPrefer_188 : decode cX8_findPrefer 188 = .ok (.iadd, 1) := by decide +kernel
set_option maxRecDepth 20000 in
theorem dX8_findPrefer_189 : decode cX8_findPrefer 189 = .ok (.istore 10, 2) := by decide +kernel
set_option maxRecDepth 20000 in
theorem dX8_findPrefer_191 : decode cX8_findPrefer 191 = .ok (.iload 9, 2) := by decide +kernel
set_option maxRecDepth 20000 in
theorem dX8_findPrefer_193 : decode cX8_findPrefer 193 = .ok (.iload_n 3, 1) := by decide +kernel
set_option maxRecDepth 20000 in
theorem dX8_findPrefer_194 : decode cX8_findPrefer 194 = .ok (.if_icmp .ge 10, 3) := by decide +kernel
set_option maxRecDepth 20000 in
theorem dX8_findPrefer_197 : decode cX8_findPrefer 197 = .ok (.iload 6, 2) := by decide +kernel
set_option maxRecDepth 20000 in
theorem dX8_findPrefer_199 : decode cX8_findPrefer 199 = .ok (.iconst 1, 1) := by decide +kernel
set_option maxRecDepth 20000 in
theorem dX8_findPrefer_200 : decode cX8_findPrefer 200 = .ok (.iadd, 1) := by decide +kernel
set_option maxRecDepth 20000 in
theorem dX8_findPrefer_201 : decode cX8_findPrefer 201 = .ok (.goto 5, 3) := by decide +kernel
set_option maxRecDepth 20000 in
theorem dX8_findPrefer_204 : decode cX8_findPrefer 204 = .ok (.iload 6, 2) := by decide +kernel
set_option maxRecDepth 20000 in
theorem dX8_findPrefer_206 : decode cX8_findPrefer 206 = .ok (.istore 11, 2) := by decide +kernel
set_option maxRecDepth 20000 in
theorem dX8_findPrefer_208 : decode cX8_findPrefer 208 = .ok (.aload_n 0, 1) := by decide +kernel
set_option maxRecDepth 20000 in
theorem dX8_findPrefer_209 : decode cX8_findPrefer 209 = .ok (.getfield 39, 3) := by decide +kernel
set_option maxRecDepth 20000 in
theorem dX8_findPrefer_212 : decode cX8_findPrefer 212 = .ok (.iload 10, 2) := by decide +kernel
set_option maxRecDepth 20000 in
theorem dX8_findPrefer_214 : decode cX8_findPrefer 214 = .ok (.iload 11, 2) := by decide +kernel
set_option maxRecDepth 20000 in
theorem dX8_findPrefer_216 : decode cX8_findPrefer 216 = .ok (.aload_n 0, 1) := by decide +kernel
set_option maxRecDepth 20000 in
theorem dX8_findPrefer_217 : decode cX8_findPrefer 217 = .ok (.getfield 39, 3) := by decide +kernel
set_option maxRecDepth 20000 in
theorem dX8_findPrefer_220 : decode cX8_findPrefer 220 = .ok (.iload 10, 2) := by decide +kernel
set_option maxRecDepth 20000 in
theorem dX8_findPrefer_222 : decode cX8_findPrefer 222 = .ok (.iaload, 1) := by decide +kernel
set_option maxRecDepth 20000 in
theorem dX8_findPrefer_223 : decode cX8_findPrefer 223 = .ok (.if_icmp .le 8, 3) := by decide +kernel
set_option maxRecDepth 20000 in
theorem dX8_findPrefer_226 : decode cX8_findPrefer 226 = .ok (.iload 11, 2) := by decide +kernel
set_option maxRecDepth 20000 in
theorem dX8_findPrefer_228 : decode cX8_findPrefer 228 = .ok (.goto 10, 3) := by decide +kernel
set_option maxRecDepth 20000 in
theorem dX8_findPrefer_231 : decode cX8_findPrefer 231 = .ok (.aload_n 0, 1) := by decide +kernel
set_option maxRecDepth 20000 in
theorem dX8_findPrefer_232 : decode cX8_findPrefer 232 = .ok (.getfield 39, 3) := by decide +kernel
set_option maxRecDepth 20000 in
theorem dX8_findPrefer_235 : decode cX8_findPrefer 235 = .ok (.iload 10, 2) := by decide +kernel
set_option maxRecDepth 20000 in
theorem dX8_findPrefer_237 : decode cX8_findPrefer 237 = .ok (.iaload, 1) := by decide +kernel
set_option maxRecDepth 20000 in
theorem dX8_findPrefer_238 : decode cX8_findPrefer 238 = .ok (.iastore, 1) := by decide +kernel
set_option maxRecDepth 20000 in
theorem dX8_findPrefer_239 : decode cX8_findPrefer 239 = .ok (.iinc 7 1, 3) := by decide +kernel
set_option maxRecDepth 20000 in
theorem dX8_findPrefer_242 : decode cX8_findPrefer 242 = .ok (.goto (-116), 3) := by decide +kernel
set_option maxRecDepth 20000 in
theorem dX8_findPrefer_245 : decode cX8_findPrefer 245 = .ok (.iinc 5 1, 3) := by decide +kernel
set_option maxRecDepth 20000 in
theorem dX8_findPrefer_248 : decode cX8_findPrefer 248 = .ok (.goto (-150), 3) := by decide +kernel
set_option maxRecDepth 20000 in
theorem dX8_findPrefer_251 : decode cX8_findPrefer 251 = .ok (.iinc 4 1, 3) := by decide +kernel
set_option maxRecDepth 20000 in
theorem dX8_findPrefer_254 : decode cX8_findPrefer 254 = .ok (.goto (-165), 3) := by decide +kernel
set_option maxRecDepth 20000 in
theorem dX8_findPrefer_257 : decode cX8_findPrefer 257 = .ok (.iconst 0, 1) := by decide +kernel
set_option maxRecDepth 20000 in
theorem dX8_findPrefer_258 : decode cX8_findPrefer 258 = .ok (.istore 4, 2) := by decide +kernel
set_option maxRecDepth 20000 in
theorem dX8_findPrefer_260 : decode cX8_findPrefer 260 = .ok (.iload 4, 2) := by decide +kernel
set_option maxRecDepth 20000 in
theorem dX8_findPrefer_262 : decode cX8_findPrefer 262 = .ok (.ldc 22, 2) := by decide +kernel
set_option maxRecDepth 20000 in
theorem dX8_findPrefer_264 : decode cX8_findPrefer 264 = .ok (.if_icmp .ge 23, 3) := by decide +kernel
set_option maxRecDepth 20000 in
theorem dX8_findPrefer_267 : decode cX8_findPrefer 267 = .ok (.aload_n 0, 1) := by decide +kernel
set_option maxRecDepth 20000 in
theorem dX8_findPrefer_268 : decode cX8_findPrefer 268 = .ok (.getfield 36, 3) := by decide +kernel
set_option maxRecDepth 20000 in
theorem dX8_findPrefer_271 : decode cX8_findPrefer 271 = .ok (.iload 4, 2) := by decide +kernel
set_option maxRecDepth 20000 in
theorem dX8_findPrefer_273 : decode cX8_findPrefer 273 = .ok (.aload_n 0, 1) := by decide +kernel
set_option maxRecDepth 20000 in
theorem dX8_findPrefer_274 : decode cX8_findPrefer 274 = .ok (.getfield 39, 3) := by decide +kernel
set_option maxRecDepth 20000 in
theorem dX8_findPrefer_277 : decode cX8_findPrefer 277 = .ok (.iload 4, 2) := by decide +kernel
set_option maxRecDepth 20000 in
theorem dX8_findPrefer_279 : decode cX8_findPrefer 279 = .ok (.iaload, 1) := by decide +kernel
set_option maxRecDepth 20000 in
theorem dX8_findPrefer_280 : decode cX8_findPrefer 280 = .ok (.iastore, 1) := by decide +kernel
set_option maxRecDepth 20000 in
theorem dX8_findPrefer_281 : decode cX8_findPrefer 281 = .ok (.iinc 4 1, 3) := by decide +kernel
set_option maxRecDepth 20000 in
theorem dX8_findPrefer_284 : decode cX8_findPrefer 284 = .ok (.goto (-24), 3) := by decide +kernel
set_option maxRecDepth 20000 in
theorem dX8_findPrefer_287 : decode cX8_findPrefer 287 = .ok (.iinc 2 1, 3) := by decide +kernel
set_option maxRecDepth 20000 in
theorem dX8_findPrefer_290 : decode cX8_findPrefer 290 = .ok (.goto (-253), 3) := by decide +kernel
set_option maxRecDepth 20000 in
theorem dX8_findPrefer_293 : decode cX8_findPrefer 293 = .ok (.return_, 1) := by decide +kernel
def f_X8_findPrefer_260 (N : Nat) (c_askers : Int32) (c_places : Int32) (c_seats : Nat → Int32) (c_told : Nat → Int32) (c_wish : Nat → Int32) (k37 : Int32 → (Nat → Int32) → (Nat → Int32) → (Nat → Int32) → Int32 → Int32 → Option (Int32 × (Nat → Int32) × (Nat → Int32) × (Nat → Int32))) : Nat → Int32 → (Nat → Int32) → (Nat → Int32) → (Nat → Int32) → Int32 → Int32 → Int32 → Option (Int32 × (Nat → Int32) × (Nat → Int32) × (Nat → Int32))
  | 0, _, _, _, _, _, _, _ => none
  | n + 1, c_full, c_next, c_prefer, c_weight, v1, v2, v4 =>
    (if 36864 ≤ v4 then
      k37 c_full c_next c_prefer c_weight v1 (v2 + 1)
    else
      (rdI 36864 c_next v4).bind fun t2 =>
      (wrI 36864 c_prefer v4 t2).bind fun t3 =>
      f_X8_findPrefer_260 N c_askers c_places c_seats c_told c_wish k37 n c_full c_next t3 c_weight v1 v2 (v4 + 1))
set_option maxHeartbeats 4000000 in
set_option maxRecDepth 100000 in
theorem g_X8_findPrefer_260 {κ : KC} {ω : KW} {A : Nat → Prop} {ad : Nat → Nat} {u_above : Int64} {u_below : Int64} {u_firsts : Int32} {u_freed : Int32} {u_whole : Int64} {N : Nat} {c_askers : Int32} {c_places : Int32} {c_seats : Nat → Int32} {c_told : Nat → Int32} {c_wish : Nat → Int32}  {k37 : Int32 → (Nat → Int32) → (Nat → Int32) → (Nat → Int32) → Int32 → Int32 → Option (Int32 × (Nat → Int32) × (Nat → Int32) × (Nat → Int32))} {res : Int32 × (Nat → Int32) × (Nat → Int32) × (Nat → Int32)} (hk37 : ∀ {c_full : Int32} {c_next : Nat → Int32} {c_prefer : Nat → Int32} {c_weight : Nat → Int32} {v1 : Int32} {v2 : Int32}, k37 c_full c_next c_prefer c_weight v1 v2 = some res → GG mu_X8_findPrefer κ ω A (QR κ ω A ad (none) (w_X8_findPrefer c_askers c_places res.1 res.2.1 res.2.2.1 c_seats c_told res.2.2.2 c_wish u_above u_below u_firsts u_freed u_whole)) ad 0 0 37 (w_X8_findPrefer c_askers c_places c_full c_next c_prefer c_seats c_told c_weight c_wish u_above u_below u_firsts u_freed u_whole) [some (.ref 0), some (.int v1), some (.int v2), none, none, none, none, none, none, none, none, none] []) : ∀ (n : Nat) {c_full : Int32} {c_next : Nat → Int32} {c_prefer : Nat → Int32} {c_weight : Nat → Int32} {v1 : Int32} {v2 : Int32} {v4 : Int32}, f_X8_findPrefer_260 N c_askers c_places c_seats c_told c_wish k37 n c_full c_next c_prefer c_weight v1 v2 v4 = some res → GG mu_X8_findPrefer κ ω A (QR κ ω A ad (none) (w_X8_findPrefer c_askers c_places res.1 res.2.1 res.2.2.1 c_seats c_told res.2.2.2 c_wish u_above u_below u_firsts u_freed u_whole)) ad 0 0 260 (w_X8_findPrefer c_askers c_places c_full c_next c_prefer c_seats c_told c_weight c_wish u_above u_below u_firsts u_freed u_whole) [some (.ref 0), some (.int v1), some (.int v2), none, some (.int v4), none, none, none, none, none, none, none] [] := by
  intro n
  induction n with
  | zero => intro c_full c_next c_prefer c_weight v1 v2 v4 hf; exact ob_0 hf
  | succ n ih =>
    intro c_full c_next c_prefer c_weight v1 v2 v4 hf
    refine G_iload dX8_findPrefer_260 rfl ?_
    refine G_ldc (v := 36864) dX8_findPrefer_262 k_X8_22 ?_
    refine G_icmp_ge 287 dX8_findPrefer_264 (by decide) (fun h1 => ?_) (fun h1 => ?_)
    · replace hf := ob_t h1 hf
      refine G_iinc 1 dX8_findPrefer_287 (by decide) rfl (ltb rfl) ?_
      change GG _ _ _ _ _ _ _ _ _ _ [some (.ref 0), some (.int v1), some (.int (v2 + 1)), none, some (.int v4), none, none, none, none, none, none, none] _
      refine G_goto 37 dX8_findPrefer_290 (by decide) ?_
      refine GG.sb (lv2 := [some (.ref 0), some (.int v1), some (.int (v2 + 1)), none, none, none, none, none, none, none, none, none]) ?_ (lvS_v rfl (lvS_v rfl (lvS_v rfl (lvS_n (lvS_n (lvS_n (lvS_n (lvS_n (lvS_n (lvS_n (lvS_n (lvS_n (lvS_e)))))))))))))
      exact hk37 hf
    · replace hf := ob_f h1 hf
      refine G_aload_n dX8_findPrefer_267 rfl rfl ?_
      refine G_get (v := .ref 2) F_X8_36 dX8_findPrefer_268 rfl rfl ?_
      refine G_iload dX8_findPrefer_271 rfl ?_
      refine G_aload_n dX8_findPrefer_273 rfl rfl ?_
      refine G_get (v := .ref 1) F_X8_39 dX8_findPrefer_274 rfl rfl ?_
      refine G_iload dX8_findPrefer_277 rfl ?_
      obtain ⟨t2, ht2, hf⟩ := ob hf
      refine G_iald dX8_findPrefer_279 rfl ht2 ?_
      obtain ⟨t3, ht3, hf⟩ := ob hf
      refine G_iast (w2 := (w_X8_findPrefer c_askers c_places c_full c_next t3 c_seats c_told c_weight c_wish u_above u_below u_firsts u_freed u_whole)) dX8_findPrefer_280 rfl ht3 rfl ?_
      refine G_iinc 1 dX8_findPrefer_281 (by decide) rfl (ltb rfl) ?_
      change GG _ _ _ _ _ _ _ _ _ _ [some (.ref 0), some (.int v1), some (.int v2), none, some (.int (v4 + 1)), none, none, none, none, none, none, none] _
      refine G_goto 260 dX8_findPrefer_284 (by decide) ?_
      exact ih hf
def f_X8_findPrefer_238 (N : Nat) (c_askers : Int32) (c_places : Int32) (c_seats : Nat → Int32) (c_told : Nat → Int32) (c_wish : Nat → Int32) (k126 : Int32 → (Nat → Int32) → (Nat → Int32) → (Nat → Int32) → Int32 → Int32 → Int32 → Int32 → Int32 → Int32 → Int32 → Option (Int32 × (Nat → Int32) × (Nat → Int32) × (Nat → Int32))) (c_full : Int32) (c_next : Nat → Int32) (c_prefer : Nat → Int32) (c_weight : Nat → Int32) (v1 : Int32) (v2 : Int32) (v3 : Int32) (v4 : Int32) (v5 : Int32) (v6 : Int32) (v7 : Int32) (s1 : Int32) (s2 : Int32) : Option (Int32 × (Nat → Int32) × (Nat → Int32) × (Nat → Int32)) :=
    (wrI 36864 c_next s1 s2).bind fun t1 =>
    k126 c_full t1 c_prefer c_weight v1 v2 v3 v4 v5 v6 (v7 + 1)
set_option maxHeartbeats 4000000 in
set_option maxRecDepth 100000 in
theorem g_X8_findPrefer_238 {κ : KC} {ω : KW} {A : Nat → Prop} {ad : Nat → Nat} {u_above : Int64} {u_below : Int64} {u_firsts : Int32} {u_freed : Int32} {u_whole : Int64} {N : Nat} {c_askers : Int32} {c_places : Int32} {c_seats : Nat → Int32} {c_told : Nat → Int32} {c_wish : Nat → Int32}  {k126 : Int32 → (Nat → Int32) → (Nat → Int32) → (Nat → Int32) → Int32 → Int32 → Int32 → Int32 → Int32 → Int32 → Int32 → Option (Int32 × (Nat → Int32) × (Nat → Int32) × (Nat → Int32))} {res : Int32 × (Nat → Int32) × (Nat → Int32) × (Nat → Int32)} (hk126 : ∀ {c_full : Int32} {c_next : Nat → Int32} {c_prefer : Nat → Int32} {c_weight : Nat → Int32} {v1 : Int32} {v2 : Int32} {v3 : Int32} {v4 : Int32} {v5 : Int32} {v6 : Int32} {v7 : Int32}, k126 c_full c_next c_prefer c_weight v1 v2 v3 v4 v5 v6 v7 = some res → GG mu_X8_findPrefer κ ω A (QR κ ω A ad (none) (w_X8_findPrefer c_askers c_places res.1 res.2.1 res.2.2.1 c_seats c_told res.2.2.2 c_wish u_above u_below u_firsts u_freed u_whole)) ad 0 0 126 (w_X8_findPrefer c_askers c_places c_full c_next c_prefer c_seats c_told c_weight c_wish u_above u_below u_firsts u_freed u_whole) [some (.ref 0), some (.int v1), some (.int v2), some (.int v3), some (.int v4), some (.int v5), some (.int v6), some (.int v7), none, none, none, none] []) {c_full : Int32} {c_next : Nat → Int32} {c_prefer : Nat → Int32} {c_weight : Nat → Int32} {v1 : Int32} {v2 : Int32} {v3 : Int32} {v4 : Int32} {v5 : Int32} {v6 : Int32} {v7 : Int32} {s1 : Int32} {s2 : Int32} (hf : f_X8_findPrefer_238 N c_askers c_places c_seats c_told c_wish k126 c_full c_next c_prefer c_weight v1 v2 v3 v4 v5 v6 v7 s1 s2 = some res) : GG mu_X8_findPrefer κ ω A (QR κ ω A ad (none) (w_X8_findPrefer c_askers c_places res.1 res.2.1 res.2.2.1 c_seats c_told res.2.2.2 c_wish u_above u_below u_firsts u_freed u_whole)) ad 0 0 238 (w_X8_findPrefer c_askers c_places c_full c_next c_prefer c_seats c_told c_weight c_wish u_above u_below u_firsts u_freed u_whole) [some (.ref 0), some (.int v1), some (.int v2), some (.int v3), some (.int v4), some (.int v5), some (.int v6), some (.int v7), none, none, none, none] [.int s2, .int s1, .ref 1] := by
  obtain ⟨t1, ht1, hf⟩ := ob hf
  refine G_iast (w2 := (w_X8_findPrefer c_askers c_places c_full t1 c_prefer c_seats c_told c_weight c_wish u_above u_below u_firsts u_freed u_whole)) dX8_findPrefer_238 rfl ht1 rfl ?_
  refine G_iinc 1 dX8_findPrefer_239 (by decide) rfl (ltb rfl) ?_
  change GG _ _ _ _ _ _ _ _ _ _ [some (.ref 0), some (.int v1), some (.int v2), some (.int v3), some (.int v4), some (.int v5), some (.int v6), some (.int (v7 + 1)), none, none, none, none] _
  refine G_goto 126 dX8_findPrefer_242 (by decide) ?_
  exact hk126 hf
def f_X8_findPrefer_206 (N : Nat) (c_askers : Int32) (c_places : Int32) (c_seats : Nat → Int32) (c_told : Nat → Int32) (c_wish : Nat → Int32) (k126 : Int32 → (Nat → Int32) → (Nat → Int32) → (Nat → Int32) → Int32 → Int32 → Int32 → Int32 → Int32 → Int32 → Int32 → Option (Int32 × (Nat → Int32) × (Nat → Int32) × (Nat → Int32))) (c_full : Int32) (c_next : Nat → Int32) (c_prefer : Nat → Int32) (c_weight : Nat → Int32) (v1 : Int32) (v2 : Int32) (v3 : Int32) (v4 : Int32) (v5 : Int32) (v6 : Int32) (v7 : Int32) (v10 : Int32) (s0 : Int32) : Option (Int32 × (Nat → Int32) × (Nat → Int32) × (Nat → Int32)) :=
    (rdI 36864 c_next v10).bind fun t1 =>
    (if s0 ≤ t1 then
      (rdI 36864 c_next v10).bind fun t3 =>
      f_X8_findPrefer_238 N c_askers c_places c_seats c_told c_wish k126 c_full c_next c_prefer c_weight v1 v2 v3 v4 v5 v6 v7 v10 t3
    else
      f_X8_findPrefer_238 N c_askers c_places c_seats c_told c_wish k126 c_full c_next c_prefer c_weight v1 v2 v3 v4 v5 v6 v7 v10 s0)
set_option maxHeartbeats 4000000 in
set_option maxRecDepth 100000 in
theorem g_X8_findPrefer_206 {κ : KC} {ω : KW} {A : Nat → Prop} {ad : Nat → Nat} {u_above : Int64} {u_below : Int64} {u_firsts : Int32} {u_freed : Int32} {u_whole : Int64} {N : Nat} {c_askers : Int32} {c_places : Int32} {c_seats : Nat → Int32} {c_told : Nat → Int32} {c_wish : Nat → Int32}  {k126 : Int32 → (Nat → Int32) → (Nat → Int32) → (Nat → Int32) → Int32 → Int32 → Int32 → Int32 → Int32 → Int32 → Int32 → Option (Int32 × (Nat → Int32) × (Nat → Int32) × (Nat → Int32))} {res : Int32 × (Nat → Int32) × (Nat → Int32) × (Nat → Int32)} (hk126 : ∀ {c_full : Int32} {c_next : Nat → Int32} {c_prefer : Nat → Int32} {c_weight : Nat → Int32} {v1 : Int32} {v2 : Int32} {v3 : Int32} {v4 : Int32} {v5 : Int32} {v6 : Int32} {v7 : Int32}, k126 c_full c_next c_prefer c_weight v1 v2 v3 v4 v5 v6 v7 = some res → GG mu_X8_findPrefer κ ω A (QR κ ω A ad (none) (w_X8_findPrefer c_askers c_places res.1 res.2.1 res.2.2.1 c_seats c_told res.2.2.2 c_wish u_above u_below u_firsts u_freed u_whole)) ad 0 0 126 (w_X8_findPrefer c_askers c_places c_full c_next c_prefer c_seats c_told c_weight c_wish u_above u_below u_firsts u_freed u_whole) [some (.ref 0), some (.int v1), some (.int v2), some (.int v3), some (.int v4), some (.int v5), some (.int v6), some (.int v7), none, none, none, none] []) {c_full : Int32} {c_next : Nat → Int32} {c_prefer : Nat → Int32} {c_weight : Nat → Int32} {v1 : Int32} {v2 : Int32} {v3 : Int32} {v4 : Int32} {v5 : Int32} {v6 : Int32} {v7 : Int32} {v10 : Int32} {s0 : Int32} (hf : f_X8_findPrefer_206 N c_askers c_places c_seats c_told c_wish k126 c_full c_next c_prefer c_weight v1 v2 v3 v4 v5 v6 v7 v10 s0 = some res) : GG mu_X8_findPrefer κ ω A (QR κ ω A ad (none) (w_X8_findPrefer c_askers c_places res.1 res.2.1 res.2.2.1 c_seats c_told res.2.2.2 c_wish u_above u_below u_firsts u_freed u_whole)) ad 0 0 206 (w_X8_findPrefer c_askers c_places c_full c_next c_prefer c_seats c_told c_weight c_wish u_above u_below u_firsts u_freed u_whole) [some (.ref 0), some (.int v1), some (.int v2), some (.int v3), some (.int v4), some (.int v5), some (.int v6), some (.int v7), none, none, some (.int v10), none] [.int s0] := by
  refine G_istore dX8_findPrefer_206 (ltb rfl) ?_
  change GG _ _ _ _ _ _ _ _ _ _ [some (.ref 0), some (.int v1), some (.int v2), some (.int v3), some (.int v4), some (.int v5), some (.int v6), some (.int v7), none, none, some (.int v10), some (.int s0)] _
  refine G_aload_n dX8_findPrefer_208 rfl rfl ?_
  refine G_get (v := .ref 1) F_X8_39 dX8_findPrefer_209 rfl rfl ?_
  refine G_iload dX8_findPrefer_212 rfl ?_
  refine G_iload dX8_findPrefer_214 rfl ?_
  refine G_aload_n dX8_findPrefer_216 rfl rfl ?_
  refine G_get (v := .ref 1) F_X8_39 dX8_findPrefer_217 rfl rfl ?_
  refine G_iload dX8_findPrefer_220 rfl ?_
  obtain ⟨t1, ht1, hf⟩ := ob hf
  refine G_iald dX8_findPrefer_222 rfl ht1 ?_
  refine G_icmp_le 231 dX8_findPrefer_223 (by decide) (fun h2 => ?_) (fun h2 => ?_)
  · replace hf := ob_t h2 hf
    refine G_aload_n dX8_findPrefer_231 rfl rfl ?_
    refine G_get (v := .ref 1) F_X8_39 dX8_findPrefer_232 rfl rfl ?_
    refine G_iload dX8_findPrefer_235 rfl ?_
    obtain ⟨t3, ht3, hf⟩ := ob hf
    refine G_iald dX8_findPrefer_237 rfl ht3 ?_
    refine GG.sb (lv2 := [some (.ref 0), some (.int v1), some (.int v2), some (.int v3), some (.int v4), some (.int v5), some (.int v6), some (.int v7), none, none, none, none]) ?_ (lvS_v rfl (lvS_v rfl (lvS_v rfl (lvS_v rfl (lvS_v rfl (lvS_v rfl (lvS_v rfl (lvS_v rfl (lvS_n (lvS_n (lvS_n (lvS_n (lvS_e)))))))))))))
    exact g_X8_findPrefer_238 hk126 hf
  · replace hf := ob_f h2 hf
    refine G_iload dX8_findPrefer_226 rfl ?_
    refine G_goto 238 dX8_findPrefer_228 (by decide) ?_
    refine GG.sb (lv2 := [some (.ref 0), some (.int v1), some (.int v2), some (.int v3), some (.int v4), some (.int v5), some (.int v6), some (.int v7), none, none, none, none]) ?_ (lvS_v rfl (lvS_v rfl (lvS_v rfl (lvS_v rfl (lvS_v rfl (lvS_v rfl (lvS_v rfl (lvS_v rfl (lvS_n (lvS_n (lvS_n (lvS_n (lvS_e)))))))))))))
    exact g_X8_findPrefer_238 hk126 hf
def f_X8_findPrefer_185 (N : Nat) (c_askers : Int32) (c_places : Int32) (c_seats : Nat → Int32) (c_told : Nat → Int32) (c_wish : Nat → Int32) (k126 : Int32 → (Nat → Int32) → (Nat → Int32) → (Nat → Int32) → Int32 → Int32 → Int32 → Int32 → Int32 → Int32 → Int32 → Option (Int32 × (Nat → Int32) × (Nat → Int32) × (Nat → Int32))) (c_full : Int32) (c_next : Nat → Int32) (c_prefer : Nat → Int32) (c_weight : Nat → Int32) (v1 : Int32) (v2 : Int32) (v3 : Int32) (v4 : Int32) (v5 : Int32) (v6 : Int32) (v7 : Int32) (v8 : Int32) (v9 : Int32) (s0 : Int32) (s1 : Int32) : Option (Int32 × (Nat → Int32) × (Nat → Int32) × (Nat → Int32)) :=
    (if v3 ≤ v9 then
      f_X8_findPrefer_206 N c_askers c_places c_seats c_told c_wish k126 c_full c_next c_prefer c_weight v1 v2 v3 v4 v5 v6 v7 ((s0 * s1) + v8) v6
    else
      f_X8_findPrefer_206 N c_askers c_places c_seats c_told c_wish k126 c_full c_next c_prefer c_weight v1 v2 v3 v4 v5 v6 v7 ((s0 * s1) + v8) (v6 + 1))
set_option maxHeartbeats 4000000 in
set_option maxRecDepth 100000 in
theorem g_X8_findPrefer_185 {κ : KC} {ω : KW} {A : Nat → Prop} {ad : Nat → Nat} {u_above : Int64} {u_below : Int64} {u_firsts : Int32} {u_freed : Int32} {u_whole : Int64} {N : Nat} {c_askers : Int32} {c_places : Int32} {c_seats : Nat → Int32} {c_told : Nat → Int32} {c_wish : Nat → Int32}  {k126 : Int32 → (Nat → Int32) → (Nat → Int32) → (Nat → Int32) → Int32 → Int32 → Int32 → Int32 → Int32 → Int32 → Int32 → Option (Int32 × (Nat → Int32) × (Nat → Int32) × (Nat → Int32))} {res : Int32 × (Nat → Int32) × (Nat → Int32) × (Nat → Int32)} (hk126 : ∀ {c_full : Int32} {c_next : Nat → Int32} {c_prefer : Nat → Int32} {c_weight : Nat → Int32} {v1 : Int32} {v2 : Int32} {v3 : Int32} {v4 : Int32} {v5 : Int32} {v6 : Int32} {v7 : Int32}, k126 c_full c_next c_prefer c_weight v1 v2 v3 v4 v5 v6 v7 = some res → GG mu_X8_findPrefer κ ω A (QR κ ω A ad (none) (w_X8_findPrefer c_askers c_places res.1 res.2.1 res.2.2.1 c_seats c_told res.2.2.2 c_wish u_above u_below u_firsts u_freed u_whole)) ad 0 0 126 (w_X8_findPrefer c_askers c_places c_full c_next c_prefer c_seats c_told c_weight c_wish u_above u_below u_firsts u_freed u_whole) [some (.ref 0), some (.int v1), some (.int v2), some (.int v3), some (.int v4), some (.int v5), some (.int v6), some (.int v7), none, none, none, none] []) {c_full : Int32} {c_next : Nat → Int32} {c_prefer : Nat → Int32} {c_weight : Nat → Int32} {v1 : Int32} {v2 : Int32} {v3 : Int32} {v4 : Int32} {v5 : Int32} {v6 : Int32} {v7 : Int32} {v8 : Int32} {v9 : Int32} {s0 : Int32} {s1 : Int32} (hf : f_X8_findPrefer_185 N c_askers c_places c_seats c_told c_wish k126 c_full c_next c_prefer c_weight v1 v2 v3 v4 v5 v6 v7 v8 v9 s0 s1 = some res) : GG mu_X8_findPrefer κ ω A (QR κ ω A ad (none) (w_X8_findPrefer c_askers c_places res.1 res.2.1 res.2.2.1 c_seats c_told res.2.2.2 c_wish u_above u_below u_firsts u_freed u_whole)) ad 0 0 185 (w_X8_findPrefer c_askers c_places c_full c_next c_prefer c_seats c_told c_weight c_wish u_above u_below u_firsts u_freed u_whole) [some (.ref 0), some (.int v1), some (.int v2), some (.int v3), some (.int v4), some (.int v5), some (.int v6), some (.int v7), some (.int v8), some (.int v9), none, none] [.int s1, .int s0] := by
  refine G_imul dX8_findPrefer_185 ?_
  refine G_iload dX8_findPrefer_186 rfl ?_
  refine G_iadd dX8_findPrefer_188 ?_
  refine G_istore dX8_findPrefer_189 (ltb rfl) ?_
  change GG _ _ _ _ _ _ _ _ _ _ [some (.ref 0), some (.int v1), some (.int v2), some (.int v3), some (.int v4), some (.int v5), some (.int v6), some (.int v7), some (.int v8), some (.int v9), some (.int ((s0 * s1) + v8)), none] _
  refine G_iload dX8_findPrefer_191 rfl ?_
  refine G_iload_n dX8_findPrefer_193 rfl rfl ?_
  refine G_icmp_ge 204 dX8_findPrefer_194 (by decide) (fun h1 => ?_) (fun h1 => ?_)
  · replace hf := ob_t h1 hf
    refine G_iload dX8_findPrefer_204 rfl ?_
    refine GG.sb (lv2 := [some (.ref 0), some (.int v1), some (.int v2), some (.int v3), some (.int v4), some (.int v5), some (.int v6), some (.int v7), none, none, some (.int ((s0 * s1) + v8)), none]) ?_ (lvS_v rfl (lvS_v rfl (lvS_v rfl (lvS_v rfl (lvS_v rfl (lvS_v rfl (lvS_v rfl (lvS_v rfl (lvS_n (lvS_n (lvS_v rfl (lvS_n (lvS_e)))))))))))))
    exact g_X8_findPrefer_206 hk126 hf
  · replace hf := ob_f h1 hf
    refine G_iload dX8_findPrefer_197 rfl ?_
    refine G_iconst 1 dX8_findPrefer_199 (by decide) ?_
    refine G_iadd dX8_findPrefer_200 ?_
    refine G_goto 206 dX8_findPrefer_201 (by decide) ?_
    refine GG.sb (lv2 := [some (.ref 0), some (.int v1), some (.int v2), some (.int v3), some (.int v4), some (.int v5), some (.int v6), some (.int v7), none, none, some (.int ((s0 * s1) + v8)), none]) ?_ (lvS_v rfl (lvS_v rfl (lvS_v rfl (lvS_v rfl (lvS_v rfl (lvS_v rfl (lvS_v rfl (lvS_v rfl (lvS_n (lvS_n (lvS_v rfl (lvS_n (lvS_e)))))))))))))
    exact g_X8_findPrefer_206 hk126 hf
def f_X8_findPrefer_126 (N : Nat) (c_askers : Int32) (c_places : Int32) (c_seats : Nat → Int32) (c_told : Nat → Int32) (c_wish : Nat → Int32) (k98 : Int32 → (Nat → Int32) → (Nat → Int32) → (Nat → Int32) → Int32 → Int32 → Int32 → Int32 → Int32 → Option (Int32 × (Nat → Int32) × (Nat → Int32) × (Nat → Int32))) : Nat → Int32 → (Nat → Int32) → (Nat → Int32) → (Nat → Int32) → Int32 → Int32 → Int32 → Int32 → Int32 → Int32 → Int32 → Option (Int32 × (Nat → Int32) × (Nat → Int32) × (Nat → Int32))
  | 0, _, _, _, _, _, _, _, _, _, _, _ => none
  | n + 1, c_full, c_next, c_prefer, c_weight, v1, v2, v3, v4, v5, v6, v7 =>
    (if c_places < v7 then
      k98 c_full c_next c_prefer c_weight v1 v2 v3 v4 (v5 + 1)
    else
      (if v6 = (-1 : Int32) then
        k98 c_full c_next c_prefer c_weight v1 v2 v3 v4 (v5 + 1)
      else
        (f_X8_takes N c_places c_seats c_weight c_wish v2 v7 v5).bind fun r3 =>
        (if r3 = (-1 : Int32) then
          f_X8_findPrefer_126 N c_askers c_places c_seats c_told c_wish k98 n c_full c_next c_prefer c_weight v1 v2 v3 v4 v5 v6 (v7 + 1)
        else
          (f_X8_worthOf N c_wish v2 v7).bind fun r6 =>
          (if r6 ≤ v3 then
            f_X8_findPrefer_185 N c_askers c_places c_seats c_told c_wish (f_X8_findPrefer_126 N c_askers c_places c_seats c_told c_wish k98 n) c_full c_next c_prefer c_weight v1 v2 v3 v4 v5 v6 v7 r3 r6 4096 v4
          else
            f_X8_findPrefer_185 N c_askers c_places c_seats c_told c_wish (f_X8_findPrefer_126 N c_askers c_places c_seats c_told c_wish k98 n) c_full c_next c_prefer c_weight v1 v2 v3 v4 v5 v6 v7 r3 r6 4096 (v4 + 1)))))
set_option maxHeartbeats 4000000 in
set_option maxRecDepth 100000 in
theorem g_X8_findPrefer_126 {κ : KC} {ω : KW} {A : Nat → Prop} {ad : Nat → Nat} {u_above : Int64} {u_below : Int64} {u_firsts : Int32} {u_freed : Int32} {u_whole : Int64} {N : Nat} {c_askers : Int32} {c_places : Int32} {c_seats : Nat → Int32} {c_told : Nat → Int32} {c_wish : Nat → Int32}  {k98 : Int32 → (Nat → Int32) → (Nat → Int32) → (Nat → Int32) → Int32 → Int32 → Int32 → Int32 → Int32 → Option (Int32 × (Nat → Int32) × (Nat → Int32) × (Nat → Int32))} {res : Int32 × (Nat → Int32) × (Nat → Int32) × (Nat → Int32)} (hk98 : ∀ {c_full : Int32} {c_next : Nat → Int32} {c_prefer : Nat → Int32} {c_weight : Nat → Int32} {v1 : Int32} {v2 : Int32} {v3 : Int32} {v4 : Int32} {v5 : Int32}, k98 c_full c_next c_prefer c_weight v1 v2 v3 v4 v5 = some res → GG mu_X8_findPrefer κ ω A (QR κ ω A ad (none) (w_X8_findPrefer c_askers c_places res.1 res.2.1 res.2.2.1 c_seats c_told res.2.2.2 c_wish u_above u_below u_firsts u_freed u_whole)) ad 0 0 98 (w_X8_findPrefer c_askers c_places c_full c_next c_prefer c_seats c_told c_weight c_wish u_above u_below u_firsts u_freed u_whole) [some (.ref 0), some (.int v1), some (.int v2), some (.int v3), some (.int v4), some (.int v5), none, none, none, none, none, none] []) : ∀ (n : Nat) {c_full : Int32} {c_next : Nat → Int32} {c_prefer : Nat → Int32} {c_weight : Nat → Int32} {v1 : Int32} {v2 : Int32} {v3 : Int32} {v4 : Int32} {v5 : Int32} {v6 : Int32} {v7 : Int32}, f_X8_findPrefer_126 N c_askers c_places c_seats c_told c_wish k98 n c_full c_next c_prefer c_weight v1 v2 v3 v4 v5 v6 v7 = some res → GG mu_X8_findPrefer κ ω A (QR κ ω A ad (none) (w_X8_findPrefer c_askers c_places res.1 res.2.1 res.2.2.1 c_seats c_told res.2.2.2 c_wish u_above u_below u_firsts u_freed u_whole)) ad 0 0 126 (w_X8_findPrefer c_askers c_places c_full c_next c_prefer c_seats c_told c_weight c_wish u_above u_below u_firsts u_freed u_whole) [some (.ref 0), some (.int v1), some (.int v2), some (.int v3), some (.int v4), some (.int v5), some (.int v6), some (.int v7), none, none, none, none] [] := by
  intro n
  induction n with
  | zero => intro c_full c_next c_prefer c_weight v1 v2 v3 v4 v5 v6 v7 hf; exact ob_0 hf
  | succ n ih =>
    intro c_full c_next c_prefer c_weight v1 v2 v3 v4 v5 v6 v7 hf
    refine G_iload dX8_findPrefer_126 rfl ?_
    refine G_aload_n dX8_findPrefer_128 rfl rfl ?_
    refine G_get (v := .int c_places) F_X8_97 dX8_findPrefer_129 rfl rfl ?_
    refine G_icmp_gt 245 dX8_findPrefer_132 (by decide) (fun h1 => ?_) (fun h1 => ?_)
    · replace hf := ob_t h1 hf
      refine G_iinc 1 dX8_findPrefer_245 (by decide) rfl (ltb rfl) ?_
      change GG _ _ _ _ _ _ _ _ _ _ [some (.ref 0), some (.int v1), some (.int v2), some (.int v3), some (.int v4), some (.int (v5 + 1)), some (.int v6), some (.int v7), none, none, none, none] _
      refine G_goto 98 dX8_findPrefer_248 (by decide) ?_
      refine GG.sb (lv2 := [some (.ref 0), some (.int v1), some (.int v2), some (.int v3), some (.int v4), some (.int (v5 + 1)), none, none, none, none, none, none]) ?_ (lvS_v rfl (lvS_v rfl (lvS_v rfl (lvS_v rfl (lvS_v rfl (lvS_v rfl (lvS_n (lvS_n (lvS_n (lvS_n (lvS_n (lvS_n (lvS_e)))))))))))))
      exact hk98 hf
    · replace hf := ob_f h1 hf
      refine G_iload dX8_findPrefer_135 rfl ?_
      refine G_iconst (-1 : Int32) dX8_findPrefer_137 (by decide) ?_
      refine G_icmp_eq 245 dX8_findPrefer_138 (by decide) (fun h2 => ?_) (fun h2 => ?_)
      · replace hf := ob_t h2 hf
        refine G_iinc 1 dX8_findPrefer_245 (by decide) rfl (ltb rfl) ?_
        change GG _ _ _ _ _ _ _ _ _ _ [some (.ref 0), some (.int v1), some (.int v2), some (.int v3), some (.int v4), some (.int (v5 + 1)), some (.int v6), some (.int v7), none, none, none, none] _
        refine G_goto 98 dX8_findPrefer_248 (by decide) ?_
        refine GG.sb (lv2 := [some (.ref 0), some (.int v1), some (.int v2), some (.int v3), some (.int v4), some (.int (v5 + 1)), none, none, none, none, none, none]) ?_ (lvS_v rfl (lvS_v rfl (lvS_v rfl (lvS_v rfl (lvS_v rfl (lvS_v rfl (lvS_n (lvS_n (lvS_n (lvS_n (lvS_n (lvS_n (lvS_e)))))))))))))
        exact hk98 hf
      · replace hf := ob_f h2 hf
        refine G_aload_n dX8_findPrefer_141 rfl rfl ?_
        refine G_iload_n dX8_findPrefer_142 rfl rfl ?_
        refine G_iload dX8_findPrefer_143 rfl ?_
        refine G_iload dX8_findPrefer_145 rfl ?_
        obtain ⟨r3, hc4, hf⟩ := ob hf
        refine G_callV (μ2 := mu_X8_takes) (As := [.int v2, .int v7, .int v5]) (w2 := (w_X8_findPrefer c_askers c_places c_full c_next c_prefer c_seats c_told c_weight c_wish u_above u_below u_firsts u_freed u_whole)) (wc := (w_X8_takes c_places c_seats c_weight c_wish c_askers u_above u_below c_full u_firsts u_freed u_whole)) (wc2 := (w_X8_takes c_places c_seats c_weight c_wish c_askers u_above u_below c_full u_firsts u_freed u_whole)) (rest := []) (rv := [.int r3]) [0, 3, 5, 6] [4, 1000, 1001, 1002, 1003, 2, 1, 1004, 1005, 1006, 1007, 1008, 1009, 1010, 1011, 1012, 1013, 1014] [1, 2, 4] [3, 0, 1, 4, 2, 5, 6] (c_X8_takes hc4) cw_X8_takes m_X8_120 dX8_findPrefer_147 rfl ⟨leb rfl, leb rfl⟩ ⟨rfl, rfl⟩ rfl ⟨_, rfl, rfl⟩ (Fit.mk rfl rfl rfl) rfl (leb rfl) (ROsub.nil rfl rfl) rfl ?_
        change GG _ _ _ _ _ _ _ _ _ (w_X8_findPrefer c_askers c_places c_full c_next c_prefer c_seats c_told c_weight c_wish u_above u_below u_firsts u_freed u_whole) [some (.ref 0), some (.int v1), some (.int v2), some (.int v3), some (.int v4), some (.int v5), some (.int v6), some (.int v7), none, none, none, none] [.int r3]
        refine G_istore dX8_findPrefer_150 (ltb rfl) ?_
        change GG _ _ _ _ _ _ _ _ _ _ [some (.ref 0), some (.int v1), some (.int v2), some (.int v3), some (.int v4), some (.int v5), some (.int v6), some (.int v7), some (.int r3), none, none, none] _
        refine G_iload dX8_findPrefer_152 rfl ?_
        refine G_iconst (-1 : Int32) dX8_findPrefer_154 (by decide) ?_
        refine G_icmp_eq 239 dX8_findPrefer_155 (by decide) (fun h5 => ?_) (fun h5 => ?_)
        · replace hf := ob_t h5 hf
          refine G_iinc 1 dX8_findPrefer_239 (by decide) rfl (ltb rfl) ?_
          change GG _ _ _ _ _ _ _ _ _ _ [some (.ref 0), some (.int v1), some (.int v2), some (.int v3), some (.int v4), some (.int v5), some (.int v6), some (.int (v7 + 1)), some (.int r3), none, none, none] _
          refine G_goto 126 dX8_findPrefer_242 (by decide) ?_
          refine GG.sb (lv2 := [some (.ref 0), some (.int v1), some (.int v2), some (.int v3), some (.int v4), some (.int v5), some (.int v6), some (.int (v7 + 1)), none, none, none, none]) ?_ (lvS_v rfl (lvS_v rfl (lvS_v rfl (lvS_v rfl (lvS_v rfl (lvS_v rfl (lvS_v rfl (lvS_v rfl (lvS_n (lvS_n (lvS_n (lvS_n (lvS_e)))))))))))))
          exact ih hf
        · replace hf := ob_f h5 hf
          refine G_aload_n dX8_findPrefer_158 rfl rfl ?_
          refine G_iload_n dX8_findPrefer_159 rfl rfl ?_
          refine G_iload dX8_findPrefer_160 rfl ?_
          obtain ⟨r6, hc7, hf⟩ := ob hf
          refine G_callV (μ2 := mu_X8_worthOf) (As := [.int v2, .int v7]) (w2 := (w_X8_findPrefer c_askers c_places c_full c_next c_prefer c_seats c_told c_weight c_wish u_above u_below u_firsts u_freed u_whole)) (wc := (w_X8_worthOf c_wish c_askers c_places u_above u_below c_full u_firsts u_freed u_whole)) (wc2 := (w_X8_worthOf c_wish c_askers c_places u_above u_below c_full u_firsts u_freed u_whole)) (rest := []) (rv := [.int r6]) [0, 6] [3, 4, 5, 1000, 1001, 1002, 1003, 2, 1, 1004, 1005, 1006, 1007, 1008, 1009, 1010, 1011, 1012, 1013, 1014] [1, 2, 3, 4, 5] [5, 0, 1, 2, 3, 4, 6] (c_X8_worthOf hc7) cw_X8_worthOf m_X8_111 dX8_findPrefer_162 rfl ⟨leb rfl, leb rfl⟩ ⟨rfl, rfl⟩ rfl ⟨_, rfl, rfl⟩ (Fit.mk rfl rfl rfl) rfl (leb rfl) (ROsub.nil rfl rfl) rfl ?_
          change GG _ _ _ _ _ _ _ _ _ (w_X8_findPrefer c_askers c_places c_full c_next c_prefer c_seats c_told c_weight c_wish u_above u_below u_firsts u_freed u_whole) [some (.ref 0), some (.int v1), some (.int v2), some (.int v3), some (.int v4), some (.int v5), some (.int v6), some (.int v7), some (.int r3), none, none, none] [.int r6]
          refine G_istore dX8_findPrefer_165 (ltb rfl) ?_
          change GG _ _ _ _ _ _ _ _ _ _ [some (.ref 0), some (.int v1), some (.int v2), some (.int v3), some (.int v4), some (.int v5), some (.int v6), some (.int v7), some (.int r3), some (.int r6), none, none] _
          refine G_sipush 4096 dX8_findPrefer_167 (by decide) ?_
          refine G_iload dX8_findPrefer_170 rfl ?_
          refine G_iload_n dX8_findPrefer_172 rfl rfl ?_
          refine G_icmp_le 183 dX8_findPrefer_173 (by decide) (fun h8 => ?_) (fun h8 => ?_)
          · replace hf := ob_t h8 hf
            refine G_iload dX8_findPrefer_183 rfl ?_
            exact g_X8_findPrefer_185 ih hf
          · replace hf := ob_f h8 hf
            refine G_iload dX8_findPrefer_176 rfl ?_
            refine G_iconst 1 dX8_findPrefer_178 (by decide) ?_
            refine G_iadd dX8_findPrefer_179 ?_
            refine G_goto 185 dX8_findPrefer_180 (by decide) ?_
            exact g_X8_findPrefer_185 ih hf
def f_X8_findPrefer_98 (N : Nat) (c_askers : Int32) (c_places : Int32) (c_seats : Nat → Int32) (c_told : Nat → Int32) (c_wish : Nat → Int32) (k89 : Int32 → (Nat → Int32) → (Nat → Int32) → (Nat → Int32) → Int32 → Int32 → Int32 → Int32 → Option (Int32 × (Nat → Int32) × (Nat → Int32) × (Nat → Int32))) : Nat → Int32 → (Nat → Int32) → (Nat → Int32) → (Nat → Int32) → Int32 → Int32 → Int32 → Int32 → Int32 → Option (Int32 × (Nat → Int32) × (Nat → Int32) × (Nat → Int32))
  | 0, _, _, _, _, _, _, _, _, _ => none
  | n + 1, c_full, c_next, c_prefer, c_weight, v1, v2, v3, v4, v5 =>
    (if c_full < v5 then
      k89 c_full c_next c_prefer c_weight v1 v2 v3 (v4 + 1)
    else
      (rdI 36864 c_prefer ((4096 * v4) + v5)).bind fun t2 =>
      f_X8_findPrefer_126 N c_askers c_places c_seats c_told c_wish (f_X8_findPrefer_98 N c_askers c_places c_seats c_told c_wish k89 n) N c_full c_next c_prefer c_weight v1 v2 v3 v4 v5 t2 0)
set_option maxHeartbeats 4000000 in
set_option maxRecDepth 100000 in
theorem g_X8_findPrefer_98 {κ : KC} {ω : KW} {A : Nat → Prop} {ad : Nat → Nat} {u_above : Int64} {u_below : Int64} {u_firsts : Int32} {u_freed : Int32} {u_whole : Int64} {N : Nat} {c_askers : Int32} {c_places : Int32} {c_seats : Nat → Int32} {c_told : Nat → Int32} {c_wish : Nat → Int32}  {k89 : Int32 → (Nat → Int32) → (Nat → Int32) → (Nat → Int32) → Int32 → Int32 → Int32 → Int32 → Option (Int32 × (Nat → Int32) × (Nat → Int32) × (Nat → Int32))} {res : Int32 × (Nat → Int32) × (Nat → Int32) × (Nat → Int32)} (hk89 : ∀ {c_full : Int32} {c_next : Nat → Int32} {c_prefer : Nat → Int32} {c_weight : Nat → Int32} {v1 : Int32} {v2 : Int32} {v3 : Int32} {v4 : Int32}, k89 c_full c_next c_prefer c_weight v1 v2 v3 v4 = some res → GG mu_X8_findPrefer κ ω A (QR κ ω A ad (none) (w_X8_findPrefer c_askers c_places res.1 res.2.1 res.2.2.1 c_seats c_told res.2.2.2 c_wish u_above u_below u_firsts u_freed u_whole)) ad 0 0 89 (w_X8_findPrefer c_askers c_places c_full c_next c_prefer c_seats c_told c_weight c_wish u_above u_below u_firsts u_freed u_whole) [some (.ref 0), some (.int v1), some (.int v2), some (.int v3), some (.int v4), none, none, none, none, none, none, none] []) : ∀ (n : Nat) {c_full : Int32} {c_next : Nat → Int32} {c_prefer : Nat → Int32} {c_weight : Nat → Int32} {v1 : Int32} {v2 : Int32} {v3 : Int32} {v4 : Int32} {v5 : Int32}, f_X8_findPrefer_98 N c_askers c_places c_seats c_told c_wish k89 n c_full c_next c_prefer c_weight v1 v2 v3 v4 v5 = some res → GG mu_X8_findPrefer κ ω A (QR κ ω A ad (none) (w_X8_findPrefer c_askers c_places res.1 res.2.1 res.2.2.1 c_seats c_told res.2.2.2 c_wish u_above u_below u_firsts u_freed u_whole)) ad 0 0 98 (w_X8_findPrefer c_askers c_places c_full c_next c_prefer c_seats c_told c_weight c_wish u_above u_below u_firsts u_freed u_whole) [some (.ref 0), some (.int v1), some (.int v2), some (.int v3), some (.int v4), some (.int v5), none, none, none, none, none, none] [] := by
  intro n
  induction n with
  | zero => intro c_full c_next c_prefer c_weight v1 v2 v3 v4 v5 hf; exact ob_0 hf
  | succ n ih =>
    intro c_full c_next c_prefer c_weight v1 v2 v3 v4 v5 hf
    refine G_iload dX8_findPrefer_98 rfl ?_
    refine G_aload_n dX8_findPrefer_100 rfl rfl ?_
    refine G_get (v := .int c_full) F_X8_114 dX8_findPrefer_101 rfl rfl ?_
    refine G_icmp_gt 251 dX8_findPrefer_104 (by decide) (fun h1 => ?_) (fun h1 => ?_)
    · replace hf := ob_t h1 hf
      refine G_iinc 1 dX8_findPrefer_251 (by decide) rfl (ltb rfl) ?_
      change GG _ _ _ _ _ _ _ _ _ _ [some (.ref 0), some (.int v1), some (.int v2), some (.int v3), some (.int (v4 + 1)), some (.int v5), none, none, none, none, none, none] _
      refine G_goto 89 dX8_findPrefer_254 (by decide) ?_
      refine GG.sb (lv2 := [some (.ref 0), some (.int v1), some (.int v2), some (.int v3), some (.int (v4 + 1)), none, none, none, none, none, none, none]) ?_ (lvS_v rfl (lvS_v rfl (lvS_v rfl (lvS_v rfl (lvS_v rfl (lvS_n (lvS_n (lvS_n (lvS_n (lvS_n (lvS_n (lvS_n (lvS_e)))))))))))))
      exact hk89 hf
    · replace hf := ob_f h1 hf
      refine G_aload_n dX8_findPrefer_107 rfl rfl ?_
      refine G_get (v := .ref 2) F_X8_36 dX8_findPrefer_108 rfl rfl ?_
      refine G_sipush 4096 dX8_findPrefer_111 (by decide) ?_
      refine G_iload dX8_findPrefer_114 rfl ?_
      refine G_imul dX8_findPrefer_116 ?_
      refine G_iload dX8_findPrefer_117 rfl ?_
      refine G_iadd dX8_findPrefer_119 ?_
      obtain ⟨t2, ht2, hf⟩ := ob hf
      refine G_iald dX8_findPrefer_120 rfl ht2 ?_
      refine G_istore dX8_findPrefer_121 (ltb rfl) ?_
      change GG _ _ _ _ _ _ _ _ _ _ [some (.ref 0), some (.int v1), some (.int v2), some (.int v3), some (.int v4), some (.int v5), some (.int t2), none, none, none, none, none] _
      refine G_iconst 0 dX8_findPrefer_123 (by decide) ?_
      refine G_istore dX8_findPrefer_124 (ltb rfl) ?_
      change GG _ _ _ _ _ _ _ _ _ _ [some (.ref 0), some (.int v1), some (.int v2), some (.int v3), some (.int v4), some (.int v5), some (.int t2), some (.int 0), none, none, none, none] _
      exact g_X8_findPrefer_126 ih N hf
def f_X8_findPrefer_89 (N : Nat) (c_askers : Int32) (c_places : Int32) (c_seats : Nat → Int32) (c_told : Nat → Int32) (c_wish : Nat → Int32) (k37 : Int32 → (Nat → Int32) → (Nat → Int32) → (Nat → Int32) → Int32 → Int32 → Option (Int32 × (Nat → Int32) × (Nat → Int32) × (Nat → Int32))) : Nat → Int32 → (Nat → Int32) → (Nat → Int32) → (Nat → Int32) → Int32 → Int32 → Int32 → Int32 → Option (Int32 × (Nat → Int32) × (Nat → Int32) × (Nat → Int32))
  | 0, _, _, _, _, _, _, _, _ => none
  | n + 1, c_full, c_next, c_prefer, c_weight, v1, v2, v3, v4 =>
    (if v2 < v4 then
      f_X8_findPrefer_260 N c_askers c_places c_seats c_told c_wish k37 N c_full c_next c_prefer c_weight v1 v2 0
    else
      f_X8_findPrefer_98 N c_askers c_places c_seats c_told c_wish (f_X8_findPrefer_89 N c_askers c_places c_seats c_told c_wish k37 n) N c_full c_next c_prefer c_weight v1 v2 v3 v4 0)
set_option maxHeartbeats 4000000 in
set_option maxRecDepth 100000 in
theorem g_X8_findPrefer_89 {κ : KC} {ω : KW} {A : Nat → Prop} {ad : Nat → Nat} {u_above : Int64} {u_below : Int64} {u_firsts : Int32} {u_freed : Int32} {u_whole : Int64} {N : Nat} {c_askers : Int32} {c_places : Int32} {c_seats : Nat → Int32} {c_told : Nat → Int32} {c_wish : Nat → Int32}  {k37 : Int32 → (Nat → Int32) → (Nat → Int32) → (Nat → Int32) → Int32 → Int32 → Option (Int32 × (Nat → Int32) × (Nat → Int32) × (Nat → Int32))} {res : Int32 × (Nat → Int32) × (Nat → Int32) × (Nat → Int32)} (hk37 : ∀ {c_full : Int32} {c_next : Nat → Int32} {c_prefer : Nat → Int32} {c_weight : Nat → Int32} {v1 : Int32} {v2 : Int32}, k37 c_full c_next c_prefer c_weight v1 v2 = some res → GG mu_X8_findPrefer κ ω A (QR κ ω A ad (none) (w_X8_findPrefer c_askers c_places res.1 res.2.1 res.2.2.1 c_seats c_told res.2.2.2 c_wish u_above u_below u_firsts u_freed u_whole)) ad 0 0 37 (w_X8_findPrefer c_askers c_places c_full c_next c_prefer c_seats c_told c_weight c_wish u_above u_below u_firsts u_freed u_whole) [some (.ref 0), some (.int v1), some (.int v2), none, none, none, none, none, none, none, none, none] []) : ∀ (n : Nat) {c_full : Int32} {c_next : Nat → Int32} {c_prefer : Nat → Int32} {c_weight : Nat → Int32} {v1 : Int32} {v2 : Int32} {v3 : Int32} {v4 : Int32}, f_X8_findPrefer_89 N c_askers c_places c_seats c_told c_wish k37 n c_full c_next c_prefer c_weight v1 v2 v3 v4 = some res → GG mu_X8_findPrefer κ ω A (QR κ ω A ad (none) (w_X8_findPrefer c_askers c_places res.1 res.2.1 res.2.2.1 c_seats c_told res.2.2.2 c_wish u_above u_below u_firsts u_freed u_whole)) ad 0 0 89 (w_X8_findPrefer c_askers c_places c_full c_next c_prefer c_seats c_told c_weight c_wish u_above u_below u_firsts u_freed u_whole) [some (.ref 0), some (.int v1), some (.int v2), some (.int v3), some (.int v4), none, none, none, none, none, none, none] [] := by
  intro n
  induction n with
  | zero => intro c_full c_next c_prefer c_weight v1 v2 v3 v4 hf; exact ob_0 hf
  | succ n ih =>
    intro c_full c_next c_prefer c_weight v1 v2 v3 v4 hf
    refine G_iload dX8_findPrefer_89 rfl ?_
    refine G_iload_n dX8_findPrefer_91 rfl rfl ?_
    refine G_icmp_gt 257 dX8_findPrefer_92 (by decide) (fun h1 => ?_) (fun h1 => ?_)
    · replace hf := ob_t h1 hf
      refine G_iconst 0 dX8_findPrefer_257 (by decide) ?_
      refine G_istore dX8_findPrefer_258 (ltb rfl) ?_
      change GG _ _ _ _ _ _ _ _ _ _ [some (.ref 0), some (.int v1), some (.int v2), some (.int v3), some (.int 0), none, none, none, none, none, none, none] _
      refine GG.sb (lv2 := [some (.ref 0), some (.int v1), some (.int v2), none, some (.int 0), none, none, none, none, none, none, none]) ?_ (lvS_v rfl (lvS_v rfl (lvS_v rfl (lvS_n (lvS_v rfl (lvS_n (lvS_n (lvS_n (lvS_n (lvS_n (lvS_n (lvS_n (lvS_e)))))))))))))
      exact g_X8_findPrefer_260 hk37 N hf
    · replace hf := ob_f h1 hf
      refine G_iconst 0 dX8_findPrefer_95 (by decide) ?_
      refine G_istore dX8_findPrefer_96 (ltb rfl) ?_
      change GG _ _ _ _ _ _ _ _ _ _ [some (.ref 0), some (.int v1), some (.int v2), some (.int v3), some (.int v4), some (.int 0), none, none, none, none, none, none] _
      exact g_X8_findPrefer_98 ih N hf
def f_X8_findPrefer_65 (N : Nat) (c_askers : Int32) (c_places : Int32) (c_seats : Nat → Int32) (c_told : Nat → Int32) (c_wish : Nat → Int32) (k37 : Int32 → (Nat → Int32) → (Nat → Int32) → (Nat → Int32) → Int32 → Int32 → Option (Int32 × (Nat → Int32) × (Nat → Int32) × (Nat → Int32))) : Nat → Int32 → (Nat → Int32) → (Nat → Int32) → (Nat → Int32) → Int32 → Int32 → Int32 → Int32 → Option (Int32 × (Nat → Int32) × (Nat → Int32) × (Nat → Int32))
  | 0, _, _, _, _, _, _, _, _ => none
  | n + 1, c_full, c_next, c_prefer, c_weight, v1, v2, v3, v4 =>
    (if 36864 ≤ v4 then
      f_X8_findPrefer_89 N c_askers c_places c_seats c_told c_wish k37 N c_full c_next c_prefer c_weight v1 v2 v3 0
    else
      (wrI 36864 c_next v4 (-1 : Int32)).bind fun t2 =>
      f_X8_findPrefer_65 N c_askers c_places c_seats c_told c_wish k37 n c_full t2 c_prefer c_weight v1 v2 v3 (v4 + 1))
set_option maxHeartbeats 4000000 in
set_option maxRecDepth 100000 in
theorem g_X8_findPrefer_65 {κ : KC} {ω : KW} {A : Nat → Prop} {ad : Nat → Nat} {u_above : Int64} {u_below : Int64} {u_firsts : Int32} {u_freed : Int32} {u_whole : Int64} {N : Nat} {c_askers : Int32} {c_places : Int32} {c_seats : Nat → Int32} {c_told : Nat → Int32} {c_wish : Nat → Int32}  {k37 : Int32 → (Nat → Int32) → (Nat → Int32) → (Nat → Int32) → Int32 → Int32 → Option (Int32 × (Nat → Int32) × (Nat → Int32) × (Nat → Int32))} {res : Int32 × (Nat → Int32) × (Nat → Int32) × (Nat → Int32)} (hk37 : ∀ {c_full : Int32} {c_next : Nat → Int32} {c_prefer : Nat → Int32} {c_weight : Nat → Int32} {v1 : Int32} {v2 : Int32}, k37 c_full c_next c_prefer c_weight v1 v2 = some res → GG mu_X8_findPrefer κ ω A (QR κ ω A ad (none) (w_X8_findPrefer c_askers c_places res.1 res.2.1 res.2.2.1 c_seats c_told res.2.2.2 c_wish u_above u_below u_firsts u_freed u_whole)) ad 0 0 37 (w_X8_findPrefer c_askers c_places c_full c_next c_prefer c_seats c_told c_weight c_wish u_above u_below u_firsts u_freed u_whole) [some (.ref 0), some (.int v1), some (.int v2), none, none, none, none, none, none, none, none, none] []) : ∀ (n : Nat) {c_full : Int32} {c_next : Nat → Int32} {c_prefer : Nat → Int32} {c_weight : Nat → Int32} {v1 : Int32} {v2 : Int32} {v3 : Int32} {v4 : Int32}, f_X8_findPrefer_65 N c_askers c_places c_seats c_told c_wish k37 n c_full c_next c_prefer c_weight v1 v2 v3 v4 = some res → GG mu_X8_findPrefer κ ω A (QR κ ω A ad (none) (w_X8_findPrefer c_askers c_places res.1 res.2.1 res.2.2.1 c_seats c_told res.2.2.2 c_wish u_above u_below u_firsts u_freed u_whole)) ad 0 0 65 (w_X8_findPrefer c_askers c_places c_full c_next c_prefer c_seats c_told c_weight c_wish u_above u_below u_firsts u_freed u_whole) [some (.ref 0), some (.int v1), some (.int v2), some (.int v3), some (.int v4), none, none, none, none, none, none, none] [] := by
  intro n
  induction n with
  | zero => intro c_full c_next c_prefer c_weight v1 v2 v3 v4 hf; exact ob_0 hf
  | succ n ih =>
    intro c_full c_next c_prefer c_weight v1 v2 v3 v4 hf
    refine G_iload dX8_findPrefer_65 rfl ?_
    refine G_ldc (v := 36864) dX8_findPrefer_67 k_X8_22 ?_
    refine G_icmp_ge 86 dX8_findPrefer_69 (by decide) (fun h1 => ?_) (fun h1 => ?_)
    · replace hf := ob_t h1 hf
      refine G_iconst 0 dX8_findPrefer_86 (by decide) ?_
      refine G_istore dX8_findPrefer_87 (ltb rfl) ?_
      change GG _ _ _ _ _ _ _ _ _ _ [some (.ref 0), some (.int v1), some (.int v2), some (.int v3), some (.int 0), none, none, none, none, none, none, none] _
      exact g_X8_findPrefer_89 hk37 N hf
    · replace hf := ob_f h1 hf
      refine G_aload_n dX8_findPrefer_72 rfl rfl ?_
      refine G_get (v := .ref 1) F_X8_39 dX8_findPrefer_73 rfl rfl ?_
      refine G_iload dX8_findPrefer_76 rfl ?_
      refine G_iconst (-1 : Int32) dX8_findPrefer_78 (by decide) ?_
      obtain ⟨t2, ht2, hf⟩ := ob hf
      refine G_iast (w2 := (w_X8_findPrefer c_askers c_places c_full t2 c_prefer c_seats c_told c_weight c_wish u_above u_below u_firsts u_freed u_whole)) dX8_findPrefer_79 rfl ht2 rfl ?_
      refine G_iinc 1 dX8_findPrefer_80 (by decide) rfl (ltb rfl) ?_
      change GG _ _ _ _ _ _ _ _ _ _ [some (.ref 0), some (.int v1), some (.int v2), some (.int v3), some (.int (v4 + 1)), none, none, none, none, none, none, none] _
      refine G_goto 65 dX8_findPrefer_83 (by decide) ?_
      exact ih hf
def f_X8_findPrefer_37 (N : Nat) (c_askers : Int32) (c_places : Int32) (c_seats : Nat → Int32) (c_told : Nat → Int32) (c_wish : Nat → Int32) : Nat → Int32 → (Nat → Int32) → (Nat → Int32) → (Nat → Int32) → Int32 → Int32 → Option (Int32 × (Nat → Int32) × (Nat → Int32) × (Nat → Int32))
  | 0, _, _, _, _, _, _ => none
  | n + 1, c_full, c_next, c_prefer, c_weight, v1, v2 =>
    (if c_askers ≤ v2 then
      some (c_full, c_next, c_prefer, c_weight)
    else
      (rdI 32 c_told ((8 * v1) + v2)).bind fun t2 =>
      (f_X8_worthOf N c_wish v2 t2).bind fun r3 =>
      f_X8_findPrefer_65 N c_askers c_places c_seats c_told c_wish (f_X8_findPrefer_37 N c_askers c_places c_seats c_told c_wish n) N c_full c_next c_prefer c_weight v1 v2 r3 0)
set_option maxHeartbeats 4000000 in
set_option maxRecDepth 100000 in
theorem g_X8_findPrefer_37 {κ : KC} {ω : KW} {A : Nat → Prop} {ad : Nat → Nat} {u_above : Int64} {u_below : Int64} {u_firsts : Int32} {u_freed : Int32} {u_whole : Int64} {N : Nat} {c_askers : Int32} {c_places : Int32} {c_seats : Nat → Int32} {c_told : Nat → Int32} {c_wish : Nat → Int32}  {res : Int32 × (Nat → Int32) × (Nat → Int32) × (Nat → Int32)} : ∀ (n : Nat) {c_full : Int32} {c_next : Nat → Int32} {c_prefer : Nat → Int32} {c_weight : Nat → Int32} {v1 : Int32} {v2 : Int32}, f_X8_findPrefer_37 N c_askers c_places c_seats c_told c_wish n c_full c_next c_prefer c_weight v1 v2 = some res → GG mu_X8_findPrefer κ ω A (QR κ ω A ad (none) (w_X8_findPrefer c_askers c_places res.1 res.2.1 res.2.2.1 c_seats c_told res.2.2.2 c_wish u_above u_below u_firsts u_freed u_whole)) ad 0 0 37 (w_X8_findPrefer c_askers c_places c_full c_next c_prefer c_seats c_told c_weight c_wish u_above u_below u_firsts u_freed u_whole) [some (.ref 0), some (.int v1), some (.int v2), none, none, none, none, none, none, none, none, none] [] := by
  intro n
  induction n with
  | zero => intro c_full c_next c_prefer c_weight v1 v2 hf; exact ob_0 hf
  | succ n ih =>
    intro c_full c_next c_prefer c_weight v1 v2 hf
    refine G_iload_n dX8_findPrefer_37 rfl rfl ?_
    refine G_aload_n dX8_findPrefer_38 rfl rfl ?_
    refine G_get (v := .int c_askers) F_X8_89 dX8_findPrefer_39 rfl rfl ?_
    refine G_icmp_ge 293 dX8_findPrefer_42 (by decide) (fun h1 => ?_) (fun h1 => ?_)
    · replace hf := ob_t h1 hf
      obtain rfl := os hf
      exact G_return dX8_findPrefer_293 rfl
    · replace hf := ob_f h1 hf
      refine G_aload_n dX8_findPrefer_45 rfl rfl ?_
      refine G_iload_n dX8_findPrefer_46 rfl rfl ?_
      refine G_aload_n dX8_findPrefer_47 rfl rfl ?_
      refine G_get (v := .ref 4) F_X8_16 dX8_findPrefer_48 rfl rfl ?_
      refine G_bipush 8 dX8_findPrefer_51 (by decide) ?_
      refine G_iload_n dX8_findPrefer_53 rfl rfl ?_
      refine G_imul dX8_findPrefer_54 ?_
      refine G_iload_n dX8_findPrefer_55 rfl rfl ?_
      refine G_iadd dX8_findPrefer_56 ?_
      obtain ⟨t2, ht2, hf⟩ := ob hf
      refine G_iald dX8_findPrefer_57 rfl ht2 ?_
      obtain ⟨r3, hc4, hf⟩ := ob hf
      refine G_callV (μ2 := mu_X8_worthOf) (As := [.int v2, .int t2]) (w2 := (w_X8_findPrefer c_askers c_places c_full c_next c_prefer c_seats c_told c_weight c_wish u_above u_below u_firsts u_freed u_whole)) (wc := (w_X8_worthOf c_wish c_askers c_places u_above u_below c_full u_firsts u_freed u_whole)) (wc2 := (w_X8_worthOf c_wish c_askers c_places u_above u_below c_full u_firsts u_freed u_whole)) (rest := []) (rv := [.int r3]) [0, 6] [3, 4, 5, 1000, 1001, 1002, 1003, 2, 1, 1004, 1005, 1006, 1007, 1008, 1009, 1010, 1011, 1012, 1013, 1014] [1, 2, 3, 4, 5] [5, 0, 1, 2, 3, 4, 6] (c_X8_worthOf hc4) cw_X8_worthOf m_X8_111 dX8_findPrefer_58 rfl ⟨leb rfl, leb rfl⟩ ⟨rfl, rfl⟩ rfl ⟨_, rfl, rfl⟩ (Fit.mk rfl rfl rfl) rfl (leb rfl) (ROsub.nil rfl rfl) rfl ?_
      change GG _ _ _ _ _ _ _ _ _ (w_X8_findPrefer c_askers c_places c_full c_next c_prefer c_seats c_told c_weight c_wish u_above u_below u_firsts u_freed u_whole) [some (.ref 0), some (.int v1), some (.int v2), none, none, none, none, none, none, none, none, none] [.int r3]
      refine G_istore_n dX8_findPrefer_61 rfl (ltb rfl) ?_
      change GG _ _ _ _ _ _ _ _ _ _ [some (.ref 0), some (.int v1), some (.int v2), some (.int r3), none, none, none, none, none, none, none, none] _
      refine G_iconst 0 dX8_findPrefer_62 (by decide) ?_
      refine G_istore dX8_findPrefer_63 (ltb rfl) ?_
      change GG _ _ _ _ _ _ _ _ _ _ [some (.ref 0), some (.int v1), some (.int v2), some (.int r3), some (.int 0), none, none, none, none, none, none, none] _
      exact g_X8_findPrefer_65 ih N hf
def f_X8_findPrefer_6 (N : Nat) (c_askers : Int32) (c_places : Int32) (c_seats : Nat → Int32) (c_told : Nat → Int32) (c_wish : Nat → Int32) : Nat → Int32 → (Nat → Int32) → (Nat → Int32) → (Nat → Int32) → Int32 → Int32 → Option (Int32 × (Nat → Int32) × (Nat → Int32) × (Nat → Int32))
  | 0, _, _, _, _, _, _ => none
  | n + 1, c_full, c_next, c_prefer, c_weight, v1, v2 =>
    (if 36864 ≤ v2 then
      (wrI 36864 c_prefer c_full 0).bind fun t2 =>
      f_X8_findPrefer_37 N c_askers c_places c_seats c_told c_wish N c_full c_next t2 c_weight v1 0
    else
      (wrI 36864 c_prefer v2 (-1 : Int32)).bind fun t3 =>
      f_X8_findPrefer_6 N c_askers c_places c_seats c_told c_wish n c_full c_next t3 c_weight v1 (v2 + 1))
set_option maxHeartbeats 4000000 in
set_option maxRecDepth 100000 in
theorem g_X8_findPrefer_6 {κ : KC} {ω : KW} {A : Nat → Prop} {ad : Nat → Nat} {u_above : Int64} {u_below : Int64} {u_firsts : Int32} {u_freed : Int32} {u_whole : Int64} {N : Nat} {c_askers : Int32} {c_places : Int32} {c_seats : Nat → Int32} {c_told : Nat → Int32} {c_wish : Nat → Int32}  {res : Int32 × (Nat → Int32) × (Nat → Int32) × (Nat → Int32)} : ∀ (n : Nat) {c_full : Int32} {c_next : Nat → Int32} {c_prefer : Nat → Int32} {c_weight : Nat → Int32} {v1 : Int32} {v2 : Int32}, f_X8_findPrefer_6 N c_askers c_places c_seats c_told c_wish n c_full c_next c_prefer c_weight v1 v2 = some res → GG mu_X8_findPrefer κ ω A (QR κ ω A ad (none) (w_X8_findPrefer c_askers c_places res.1 res.2.1 res.2.2.1 c_seats c_told res.2.2.2 c_wish u_above u_below u_firsts u_freed u_whole)) ad 0 0 6 (w_X8_findPrefer c_askers c_places c_full c_next c_prefer c_seats c_told c_weight c_wish u_above u_below u_firsts u_freed u_whole) [some (.ref 0), some (.int v1), some (.int v2), none, none, none, none, none, none, none, none, none] [] := by
  intro n
  induction n with
  | zero => intro c_full c_next c_prefer c_weight v1 v2 hf; exact ob_0 hf
  | succ n ih =>
    intro c_full c_next c_prefer c_weight v1 v2 hf
    refine G_iload_n dX8_findPrefer_6 rfl rfl ?_
    refine G_ldc (v := 36864) dX8_findPrefer_7 k_X8_22 ?_
    refine G_icmp_ge 25 dX8_findPrefer_9 (by decide) (fun h1 => ?_) (fun h1 => ?_)
    · replace hf := ob_t h1 hf
      refine G_aload_n dX8_findPrefer_25 rfl rfl ?_
      refine G_get (v := .ref 2) F_X8_36 dX8_findPrefer_26 rfl rfl ?_
      refine G_aload_n dX8_findPrefer_29 rfl rfl ?_
      refine G_get (v := .int c_full) F_X8_114 dX8_findPrefer_30 rfl rfl ?_
      refine G_iconst 0 dX8_findPrefer_33 (by decide) ?_
      obtain ⟨t2, ht2, hf⟩ := ob hf
      refine G_iast (w2 := (w_X8_findPrefer c_askers c_places c_full c_next t2 c_seats c_told c_weight c_wish u_above u_below u_firsts u_freed u_whole)) dX8_findPrefer_34 rfl ht2 rfl ?_
      refine G_iconst 0 dX8_findPrefer_35 (by decide) ?_
      refine G_istore_n dX8_findPrefer_36 rfl (ltb rfl) ?_
      change GG _ _ _ _ _ _ _ _ _ _ [some (.ref 0), some (.int v1), some (.int 0), none, none, none, none, none, none, none, none, none] _
      exact g_X8_findPrefer_37 N hf
    · replace hf := ob_f h1 hf
      refine G_aload_n dX8_findPrefer_12 rfl rfl ?_
      refine G_get (v := .ref 2) F_X8_36 dX8_findPrefer_13 rfl rfl ?_
      refine G_iload_n dX8_findPrefer_16 rfl rfl ?_
      refine G_iconst (-1 : Int32) dX8_findPrefer_17 (by decide) ?_
      obtain ⟨t3, ht3, hf⟩ := ob hf
      refine G_iast (w2 := (w_X8_findPrefer c_askers c_places c_full c_next t3 c_seats c_told c_weight c_wish u_above u_below u_firsts u_freed u_whole)) dX8_findPrefer_18 rfl ht3 rfl ?_
      refine G_iinc 1 dX8_findPrefer_19 (by decide) rfl (ltb rfl) ?_
      change GG _ _ _ _ _ _ _ _ _ _ [some (.ref 0), some (.int v1), some (.int (v2 + 1)), none, none, none, none, none, none, none, none, none] _
      refine G_goto 6 dX8_findPrefer_22 (by decide) ?_
      exact ih hf
def f_X8_findPrefer (N : Nat) (c_askers : Int32) (c_places : Int32) (c_seats : Nat → Int32) (c_told : Nat → Int32) (c_wish : Nat → Int32) (c_full : Int32) (c_next : Nat → Int32) (c_prefer : Nat → Int32) (c_weight : Nat → Int32) (a1 : Int32) : Option (Int32 × (Nat → Int32) × (Nat → Int32) × (Nat → Int32)) :=
  (f_X8_findWeights N c_places c_seats c_full c_weight).bind fun (o1, o2) =>
  f_X8_findPrefer_6 N c_askers c_places c_seats c_told c_wish N o1 c_next c_prefer o2 a1 0
set_option maxHeartbeats 4000000 in
set_option maxRecDepth 100000 in
theorem c_X8_findPrefer {N : Nat} {c_askers : Int32} {c_places : Int32} {c_seats : Nat → Int32} {c_told : Nat → Int32} {c_wish : Nat → Int32} {c_full : Int32} {c_next : Nat → Int32} {c_prefer : Nat → Int32} {c_weight : Nat → Int32} {u_above : Int64} {u_below : Int64} {u_firsts : Int32} {u_freed : Int32} {u_whole : Int64} {a1 : Int32} {res : Int32 × (Nat → Int32) × (Nat → Int32) × (Nat → Int32)} (hf : f_X8_findPrefer N c_askers c_places c_seats c_told c_wish c_full c_next c_prefer c_weight a1 = some res) : Con mu_X8_findPrefer [.ref 0, .int a1] (w_X8_findPrefer c_askers c_places c_full c_next c_prefer c_seats c_told c_weight c_wish u_above u_below u_firsts u_freed u_whole) (none) (w_X8_findPrefer c_askers c_places res.1 res.2.1 res.2.2.1 c_seats c_told res.2.2.2 c_wish u_above u_below u_firsts u_freed u_whole) := by
  refine Con.mk (show plainName RX8 = true by decide +kernel) (leb rfl) (fun κ ω A ad => ?_)
  change GG mu_X8_findPrefer κ ω A (QR κ ω A ad (none) (w_X8_findPrefer c_askers c_places res.1 res.2.1 res.2.2.1 c_seats c_told res.2.2.2 c_wish u_above u_below u_firsts u_freed u_whole)) ad 0 0 0 (w_X8_findPrefer c_askers c_places c_full c_next c_prefer c_seats c_told c_weight c_wish u_above u_below u_firsts u_freed u_whole) [some (.ref 0), some (.int a1), none, none, none, none, none, none, none, none, none, none] []
  refine G_aload_n dX8_findPrefer_0 rfl rfl ?_
  obtain ⟨⟨o1, o2⟩, hc3, hf⟩ := ob hf
  refine G_callV (μ2 := mu_X8_findWeights) (As := []) (w2 := (w_X8_findPrefer c_askers c_places o1 c_next c_prefer c_seats c_told o2 c_wish u_above u_below u_firsts u_freed u_whole)) (wc := (w_X8_findWeights c_places c_full c_seats c_weight c_askers u_above u_below u_firsts u_freed u_whole)) (wc2 := (w_X8_findWeights c_places o1 c_seats o2 c_askers u_above u_below u_firsts u_freed u_whole)) (rest := []) (rv := []) [0, 3, 5] [6, 4, 1000, 1001, 1002, 1003, 2, 1, 1004, 1005, 1006, 1007, 1008, 1009, 1010, 1011, 1012, 1013, 1014] [1, 2, 4, 6] [4, 0, 1, 5, 2, 6, 3] (c_X8_findWeights hc3) cw_X8_findWeights m_X8_117 dX8_findPrefer_1 rfl ⟨leb rfl, leb rfl⟩ ⟨rfl, rfl⟩ rfl ⟨_, rfl, rfl⟩ (Fit.mk rfl rfl rfl) rfl (leb rfl) (ROsub.nil rfl rfl) rfl ?_
  change GG _ _ _ _ _ _ _ _ _ (w_X8_findPrefer c_askers c_places o1 c_next c_prefer c_seats c_told o2 c_wish u_above u_below u_firsts u_freed u_whole) [some (.ref 0), some (.int a1), none, none, none, none, none, none, none, none, none, none] []
  refine G_iconst 0 dX8_findPrefer_4 (by decide) ?_
  refine G_istore_n dX8_findPrefer_5 rfl (ltb rfl) ?_
  change GG _ _ _ _ _ _ _ _ _ _ [some (.ref 0), some (.int a1), some (.int 0), none, none, none, none, none, none, none, none, none] _
  exact g_X8_findPrefer_6 N hf
set_option maxRecDepth 20000 in
theorem dX8_factor_0 : decode cX8_factor 0 = .ok (.iload_n 1, 1) := by decide +kernel
set_option maxRecDepth 20000 in
theorem dX8_factor_1 : decode cX8_factor 1 = .ok (.invokestatic 127, 3) := by decide +kernel
set_option maxRecDepth 20000 in
theorem dX8_factor_4 : decode cX8_factor 4 = .ok (.ifCond .ne 6, 3) := by decide +kernel
set_option maxRecDepth 20000 in
theorem dX8_factor_7 : decode cX8_factor 7 = .ok (.bipush (-2), 2) := by decide +kernel
set_option maxRecDepth 20000 in
theorem dX8_factor_9 : decode cX8_factor 9 = .ok (.ireturn, 1) := by decide +kernel
set_option maxRecDepth 20000 in
theorem dX8_factor_10 : decode cX8_factor 10 = .ok (.aload_n 0, 1) := by decide +kernel
set_option maxRecDepth 20000 in
theorem dX8_factor_11 : decode cX8_factor 11 = .ok (.iload_n 1, 1) := by decide +kernel
set_option maxRecDepth 20000 in
theorem dX8_factor_12 : decode cX8_factor 12 = .ok (.invokevirtual 163, 3) := by decide +kernel
set_option maxRecDepth 20000 in
theorem dX8_factor_15 : decode cX8_factor 15 = .ok (.lconst 0, 1) := by decide +kernel
set_option maxRecDepth 20000 in
theorem dX8_factor_16 : decode cX8_factor 16 = .ok (.lstore_n 2, 1) := by decide +kernel
set_option maxRecDepth 20000 in
theorem dX8_factor_17 : decode cX8_factor 17 = .ok (.lconst 1, 1) := by decide +kernel
set_option maxRecDepth 20000 in
theorem dX8_factor_18 : decode cX8_factor 18 = .ok (.lstore 4, 2) := by decide +kernel
set_option maxRecDepth 20000 in
theorem dX8_factor_20 : decode cX8_factor 20 = .ok (.iconst 0, 1) := by decide +kernel
set_option maxRecDepth 20000 in
theorem dX8_factor_21 : decode cX8_factor 21 = .ok (.istore 6, 2) := by decide +kernel
set_option maxRecDepth 20000 in
theorem dX8_factor_23 : decode cX8_factor 23 = .ok (.iload 6, 2) := by decide +kernel
set_option maxRecDepth 20000 in
theorem dX8_factor_25 : decode cX8_factor 25 = .ok (.aload_n 0, 1) := by decide +kernel
set_option maxRecDepth 20000 in
theorem dX8_factor_26 : decode cX8_factor 26 = .ok (.getfield 89, 3) := by decide +kernel
set_option maxRecDepth 20000 in
theorem dX8_factor_29 : decode cX8_factor 29 = .ok (.if_icmp .gt 108, 3) := by decide +kernel
set_option maxRecDepth 20000 in
theorem dX8_factor_32 : decode cX8_factor 32 = .ok (.iconst 0, 1) := by decide +kernel
set_option maxRecDepth 20000 in
theorem dX8_factor_33 : decode cX8_factor 33 = .ok (.istore 7, 2) := by decide +kernel
set_option maxRecDepth 20000 in
theorem dX8_factor_35 : decode cX8_factor 35 = .ok (.iconst 0, 1) := by decide +kernel
set_option maxRecDepth 20000 in
theorem dX8_factor_36 : decode cX8_factor 36 = .ok (.istore 8, 2) := by decide +kernel
set_option maxRecDepth 20000 in
theorem dX8_factor_38 : decode cX8_factor 38 = .ok (.iload 8, 2) := by decide +kernel
set_option maxRecDepth 20000 in
theorem dX8_factor_40 : decode cX8_factor 40 = .ok (.aload_n 0, 1) := by decide +kernel
set_option maxRecDepth 20000 in
theorem dX8_factor_41 : decode cX8_factor 41 = .ok (.getfield 114, 3) := by decide +kernel
set_option maxRecDepth 20000 in
theorem dX8_factor_44 : decode cX8_factor 44 = .ok (.if_icmp .gt 49, 3) := by decide +kernel
set_option maxRecDepth 20000 in
theorem dX8_factor_47 : decode cX8_factor 47 = .ok (.aload_n 0, 1) := by decide +kernel
set_option maxRecDepth 20000 in
theorem dX8_factor_48 : decode cX8_factor 48 = .ok (.getfield 36, 3) := by decide +kernel
set_option maxRecDepth 20000 in
theorem dX8_factor_51 : decode cX8_factor 51 = .ok (.sipush 4096, 3) := by decide +kernel
set_option maxRecDepth 20000 in
theorem dX8_factor_54 : decode cX8_factor 54 = .ok (.iload 6, 2) := by decide +kernel
set_option maxRecDepth 20000 in
theorem dX8_factor_56 : decode cX8_factor 56 = .ok (.imul, 1) := by decide +kernel
set_option maxRecDepth 20000 in
theorem dX8_factor_57 : decode cX8_factor 57 = .ok (.iload 8, 2) := by decide +kernel
set_option maxRecDepth 20000 in
theorem dX8_factor_59 : decode cX8_factor 59 = .ok (.iadd, 1) := by decide +kernel
set_option maxRecDepth 20000 in
theorem dX8_factor_60 : decode cX8_factor 60 = .ok (.iaload, 1) := by decide +kernel
set_option maxRecDepth 20000 in
theorem dX8_factor_61 : decode cX8_factor 61 = .ok (.iload 7, 2) := by decide +kernel
set_option maxRecDepth 20000 in
theorem dX8_factor_63 : decode cX8_factor 63 = .ok (.if_icmp .le 20, 3) := by decide +kernel
set_option maxRecDepth 20000 in
theorem dX8_factor_66 : decode cX8_factor 66 = .ok (.aload_n 0, 1) := by decide +kernel
set_option maxRecDepth 20000 in
theorem dX8_factor_67 : decode cX8_factor 67 = .ok (.getfield 36, 3) := by decide +kernel
set_option maxRecDepth 20000 in
theorem dX8_factor_70 : decode cX8_factor 70 = .ok (.sipush 4096, 3) := by decide +kernel
set_option maxRecDepth 20000 in
theorem dX8_factor_73 : decode cX8_factor 73 = .ok (.iload 6, 2) := by decide +kernel
set_option maxRecDepth 20000 in
theorem dX8_factor_75 : decode cX8_factor 75 = .ok (.imul, 1) := by decide +kernel
set_option maxRecDepth 20000 in
theorem dX8_factor_76 : decode cX8_factor 76 = .ok (.iload 8, 2) := by decide +kernel
set_option maxRecDepth 20000 in
theorem dX8_factor_78 : decode cX8_factor 78 = .ok (.iadd, 1) := by decide +kernel
set_option maxRecDepth 20000 in
theorem dX8_factor_79 : decode cX8_factor 79 = .ok (.iaload, 1) := by decide +kernel
set_option maxRecDepth 20000 in
theorem dX8_factor_80 : decode cX8_factor 80 = .ok (.goto 5, 3) := by decide +kernel
set_option maxRecDepth 20000 in
theorem dX8_factor_83 : decode cX8_factor 83 = .ok (.iload 7, 2) := by decide +kernel
set_option maxRecDepth 20000 in
theorem dX8_factor_85 : decode cX8_factor 85 = .ok (.istore 7, 2) := by decide +kernel
set_option maxRecDepth 20000 in
theorem dX8_factor_87 : decode cX8_factor 87 = .ok (.iinc 8 1, 3) := by decide +kernel
set_option maxRecDepth 20000 in
theorem dX8_factor_90 : decode cX8_factor 90 = .ok (.goto (-52), 3) := by decide +kernel
set_option maxRecDepth 20000 in
theorem dX8_factor_93 : decode cX8_factor 93 = .ok (.iload 7, 2) := by decide +kernel
set_option maxRecDepth 20000 in
theorem dX8_factor_95 : decode cX8_factor 95 = .ok (.ifCond .le 36, 3) := by decide +kernel
set_option maxRecDepth 20000 in
theorem dX8_factor_98 : decode cX8_factor 98 = .ok (.iload 7, 2) := by decide +kernel
set_option maxRecDepth 20000 in
theorem dX8_factor_100 : decode cX8_factor 100 = .ok (.i2l, 1) := by decide +kernel
set_option maxRecDepth 20000 in
theorem dX8_factor_101 : decode cX8_factor 101 = .ok (.lload 4, 2) := by decide +kernel
set_option maxRecDepth 20000 in
theorem dX8_factor_103 : decode cX8_factor 103 = .ok (.lmul, 1) := by decide +kernel
set_option maxRecDepth 20000 in
theorem dX8_factor_104 : decode cX8_factor 104 = .ok (.lload_n 2, 1) := by decide +kernel
set_option maxRecDepth 20000 in
theorem dX8_factor_105 : decode cX8_factor 105 = .ok (.iload 6, 2) := by decide +kernel
set_option maxRecDepth 20000 in
theorem dX8_factor_107 : decode cX8_factor 107 = .ok (.i2l, 1) := by decide +kernel
set_option maxRecDepth 20000 in
theorem dX8_factor_108 : decode cX8_factor 108 = .ok (.lmul, 1) := by decide +kernel
set_option maxRecDepth 20000 in
theorem dX8_factor_109 : decode cX8_factor 109 = .ok (.lcmp, 1) := by decide +kernel
set_option maxRecDepth 20000 in
theorem dX8_factor_110 : decode cX8_factor 110 = .ok (.ifCond .le 21, 3) := by decide +kernel
set_option maxRecDepth 20000 in
theorem dX8_factor_113 : decode cX8_factor 113 = .ok (.iload 6, 2) := by decide +kernel
set_option maxRecDepth 20000 in
theorem dX8_factor_115 : decode cX8_factor 115 = .ok (.ifCond .ne 7, 3) := by decide +kernel
set_option maxRecDepth 20000 in
theorem dX8_factor_118 : decode cX8_factor 118 = .ok (.lconst 1, 1) := by decide +kernel
set_option maxRecDepth 20000 in
theorem dX8_factor_119 : decode cX8_factor 119 = .ok (.goto 6, 3) := by decide +kernel
set_option maxRecDepth 20000 in
theorem dX8_factor_122 : decode cX8_factor 122 = .ok (.iload 7, 2) := by decide +kernel
set_option maxRecDepth 20000 in
theorem dX8_factor_124 : decode cX8_factor 124 = .ok (.i2l, 1) := by decide +kernel
set_option maxRecDepth 20000 in
theorem dX8_factor_125 : decode cX8_factor 125 = .ok (.lstore_n 2, 1) := by decide +kernel
set_option maxRecDepth 20000 in
theorem dX8_factor_126 : decode cX8_factor 126 = .ok (.iload 6, 2) := by decide +kernel
set_option maxRecDepth 20000 in
theorem dX8_factor_128 : decode cX8_factor 128 = .ok (.i2l, 1) := by decide +kernel
set_option maxRecDepth 20000 in
theorem dX8_factor_129 : decode cX8_factor 129 = .ok (.lstore 4, 2) := by decide +kernel
set_option maxRecDepth 20000 in
theorem dX8_factor_131 : decode cX8_factor 131 = .ok (.iinc 6 1, 3) := by decide +kernel
set_option maxRecDepth 20000 in
theorem dX8_factor_134 : decode cX8_factor 134 = .ok (.goto (-111), 3) := by decide +kernel
set_option maxRecDepth 20000 in
theorem dX8_factor_137 : decode cX8_factor 137 = .ok (.aload_n 0, 1) := by decide +kernel
set_option maxRecDepth 20000 in
theorem dX8_factor_138 : decode cX8_factor 138 = .ok (.lload_n 2, 1) := by decide +kernel
set_option maxRecDepth 20000 in
theorem dX8_factor_139 : decode cX8_factor 139 = .ok (.lload 4, 2) := by decide +kernel
set_option maxRecDepth 20000 in
theorem dX8_factor_141 : decode cX8_factor 141 = .ok (.invokevirtual 166, 3) := by decide +kernel
set_option maxRecDepth 20000 in
theorem dX8_factor_144 : decode cX8_factor 144 = .ok (.ireturn, 1) := by decide +kernel
def f_X8_factor_38 (N : Nat) (c_askers : Int32) (c_places : Int32) (c_seats : Nat → Int32) (c_told : Nat → Int32) (c_wish : Nat → Int32) (k23 : Int64 → Int64 → Int32 → (Nat → Int32) → (Nat → Int32) → (Nat → Int32) → Int64 → Int64 → Int32 → Option (Int32 × Int64 × Int64 × Int32 × (Nat → Int32) × (Nat → Int32) × (Nat → Int32))) : Nat → Int64 → Int64 → Int32 → (Nat → Int32) → (Nat → Int32) → (Nat → Int32) → Int64 → Int64 → Int32 → Int32 → Int32 → Option (Int32 × Int64 × Int64 × Int32 × (Nat → Int32) × (Nat → Int32) × (Nat → Int32))
  | 0, _, _, _, _, _, _, _, _, _, _, _ => none
  | n + 1, c_above, c_below, c_full, c_next, c_prefer, c_weight, v2, v4, v6, v7, v8 =>
    (if c_full < v8 then
      (if v7 ≤ 0 then
        k23 c_above c_below c_full c_next c_prefer c_weight v2 v4 (v6 + 1)
      else
        (if (v7.toInt64 * v4) ≤ (v2 * v6.toInt64) then
          k23 c_above c_below c_full c_next c_prefer c_weight v2 v4 (v6 + 1)
        else
          (if v6 = 0 then
            k23 c_above c_below c_full c_next c_prefer c_weight 1 v6.toInt64 (v6 + 1)
          else
            k23 c_above c_below c_full c_next c_prefer c_weight v7.toInt64 v6.toInt64 (v6 + 1))))
    else
      (rdI 36864 c_prefer ((4096 * v6) + v8)).bind fun t5 =>
      (if t5 ≤ v7 then
        f_X8_factor_38 N c_askers c_places c_seats c_told c_wish k23 n c_above c_below c_full c_next c_prefer c_weight v2 v4 v6 v7 (v8 + 1)
      else
        (rdI 36864 c_prefer ((4096 * v6) + v8)).bind fun t7 =>
        f_X8_factor_38 N c_askers c_places c_seats c_told c_wish k23 n c_above c_below c_full c_next c_prefer c_weight v2 v4 v6 t7 (v8 + 1)))
set_option maxHeartbeats 4000000 in
set_option maxRecDepth 100000 in
theorem g_X8_factor_38 {κ : KC} {ω : KW} {A : Nat → Prop} {ad : Nat → Nat} {u_firsts : Int32} {u_freed : Int32} {u_whole : Int64} {N : Nat} {c_askers : Int32} {c_places : Int32} {c_seats : Nat → Int32} {c_told : Nat → Int32} {c_wish : Nat → Int32}  {k23 : Int64 → Int64 → Int32 → (Nat → Int32) → (Nat → Int32) → (Nat → Int32) → Int64 → Int64 → Int32 → Option (Int32 × Int64 × Int64 × Int32 × (Nat → Int32) × (Nat → Int32) × (Nat → Int32))} {res : Int32 × Int64 × Int64 × Int32 × (Nat → Int32) × (Nat → Int32) × (Nat → Int32)} (hk23 : ∀ {c_above : Int64} {c_below : Int64} {c_full : Int32} {c_next : Nat → Int32} {c_prefer : Nat → Int32} {c_weight : Nat → Int32} {v2 : Int64} {v4 : Int64} {v6 : Int32}, k23 c_above c_below c_full c_next c_prefer c_weight v2 v4 v6 = some res → GG mu_X8_factor κ ω A (QR κ ω A ad (some (.int res.1)) (w_X8_factor c_askers c_places res.2.1 res.2.2.1 res.2.2.2.1 res.2.2.2.2.1 res.2.2.2.2.2.1 c_seats c_told res.2.2.2.2.2.2 c_wish u_firsts u_freed u_whole)) ad 0 0 23 (w_X8_factor c_askers c_places c_above c_below c_full c_next c_prefer c_seats c_told c_weight c_wish u_firsts u_freed u_whole) [some (.ref 0), none, some (.long v2), none, some (.long v4), none, some (.int v6), none, none] []) : ∀ (n : Nat) {c_above : Int64} {c_below : Int64} {c_full : Int32} {c_next : Nat → Int32} {c_prefer : Nat → Int32} {c_weight : Nat → Int32} {v2 : Int64} {v4 : Int64} {v6 : Int32} {v7 : Int32} {v8 : Int32}, f_X8_factor_38 N c_askers c_places c_seats c_told c_wish k23 n c_above c_below c_full c_next c_prefer c_weight v2 v4 v6 v7 v8 = some res → GG mu_X8_factor κ ω A (QR κ ω A ad (some (.int res.1)) (w_X8_factor c_askers c_places res.2.1 res.2.2.1 res.2.2.2.1 res.2.2.2.2.1 res.2.2.2.2.2.1 c_seats c_told res.2.2.2.2.2.2 c_wish u_firsts u_freed u_whole)) ad 0 0 38 (w_X8_factor c_askers c_places c_above c_below c_full c_next c_prefer c_seats c_told c_weight c_wish u_firsts u_freed u_whole) [some (.ref 0), none, some (.long v2), none, some (.long v4), none, some (.int v6), some (.int v7), some (.int v8)] [] := by
  intro n
  induction n with
  | zero => intro c_above c_below c_full c_next c_prefer c_weight v2 v4 v6 v7 v8 hf; exact ob_0 hf
  | succ n ih =>
    intro c_above c_below c_full c_next c_prefer c_weight v2 v4 v6 v7 v8 hf
    refine G_iload dX8_factor_38 rfl ?_
    refine G_aload_n dX8_factor_40 rfl rfl ?_
    refine G_get (v := .int c_full) F_X8_114 dX8_factor_41 rfl rfl ?_
    refine G_icmp_gt 93 dX8_factor_44 (by decide) (fun h1 => ?_) (fun h1 => ?_)
    · replace hf := ob_t h1 hf
      refine G_iload dX8_factor_93 rfl ?_
      refine G_if_le 131 dX8_factor_95 (by decide) (fun h2 => ?_) (fun h2 => ?_)
      · replace hf := ob_t h2 hf
        refine G_iinc 1 dX8_factor_131 (by decide) rfl (ltb rfl) ?_
        change GG _ _ _ _ _ _ _ _ _ _ [some (.ref 0), none, some (.long v2), none, some (.long v4), none, some (.int (v6 + 1)), some (.int v7), some (.int v8)] _
        refine G_goto 23 dX8_factor_134 (by decide) ?_
        refine GG.sb (lv2 := [some (.ref 0), none, some (.long v2), none, some (.long v4), none, some (.int (v6 + 1)), none, none]) ?_ (lvS_v rfl (lvS_n (lvS_v rfl (lvS_n (lvS_v rfl (lvS_n (lvS_v rfl (lvS_n (lvS_n (lvS_e))))))))))
        exact hk23 hf
      · replace hf := ob_f h2 hf
        refine G_iload dX8_factor_98 rfl ?_
        refine G_i2l dX8_factor_100 ?_
        refine G_lload dX8_factor_101 rfl ?_
        refine G_lmul dX8_factor_103 ?_
        refine G_lload_n dX8_factor_104 rfl rfl ?_
        refine G_iload dX8_factor_105 rfl ?_
        refine G_i2l dX8_factor_107 ?_
        refine G_lmul dX8_factor_108 ?_
        refine G_lcmp_le 131 dX8_factor_109 dX8_factor_110 (by decide) (fun h3 => ?_) (fun h3 => ?_)
        · replace hf := ob_t h3 hf
          refine G_iinc 1 dX8_factor_131 (by decide) rfl (ltb rfl) ?_
          change GG _ _ _ _ _ _ _ _ _ _ [some (.ref 0), none, some (.long v2), none, some (.long v4), none, some (.int (v6 + 1)), some (.int v7), some (.int v8)] _
          refine G_goto 23 dX8_factor_134 (by decide) ?_
          refine GG.sb (lv2 := [some (.ref 0), none, some (.long v2), none, some (.long v4), none, some (.int (v6 + 1)), none, none]) ?_ (lvS_v rfl (lvS_n (lvS_v rfl (lvS_n (lvS_v rfl (lvS_n (lvS_v rfl (lvS_n (lvS_n (lvS_e))))))))))
          exact hk23 hf
        · replace hf := ob_f h3 hf
          refine G_iload dX8_factor_113 rfl ?_
          refine G_if_ne 122 dX8_factor_115 (by decide) (fun h4 => ?_) (fun h4 => ?_)
          · replace hf := ob_f h4 hf
            refine G_iload dX8_factor_122 rfl ?_
            refine G_i2l dX8_factor_124 ?_
            refine G_lstore_n dX8_factor_125 rfl (ltb rfl) ?_
            change GG _ _ _ _ _ _ _ _ _ _ [some (.ref 0), none, some (.long v7.toInt64), none, some (.long v4), none, some (.int v6), some (.int v7), some (.int v8)] _
            refine G_iload dX8_factor_126 rfl ?_
            refine G_i2l dX8_factor_128 ?_
            refine G_lstore dX8_factor_129 (ltb rfl) ?_
            change GG _ _ _ _ _ _ _ _ _ _ [some (.ref 0), none, some (.long v7.toInt64), none, some (.long v6.toInt64), none, some (.int v6), some (.int v7), some (.int v8)] _
            refine G_iinc 1 dX8_factor_131 (by decide) rfl (ltb rfl) ?_
            change GG _ _ _ _ _ _ _ _ _ _ [some (.ref 0), none, some (.long v7.toInt64), none, some (.long v6.toInt64), none, some (.int (v6 + 1)), some (.int v7), some (.int v8)] _
            refine G_goto 23 dX8_factor_134 (by decide) ?_
            refine GG.sb (lv2 := [some (.ref 0), none, some (.long v7.toInt64), none, some (.long v6.toInt64), none, some (.int (v6 + 1)), none, none]) ?_ (lvS_v rfl (lvS_n (lvS_v rfl (lvS_n (lvS_v rfl (lvS_n (lvS_v rfl (lvS_n (lvS_n (lvS_e))))))))))
            exact hk23 hf
          · replace hf := ob_t h4 hf
            refine G_lconst 1 dX8_factor_118 (by decide) ?_
            refine G_goto 125 dX8_factor_119 (by decide) ?_
            refine G_lstore_n dX8_factor_125 rfl (ltb rfl) ?_
            change GG _ _ _ _ _ _ _ _ _ _ [some (.ref 0), none, some (.long 1), none, some (.long v4), none, some (.int v6), some (.int v7), some (.int v8)] _
            refine G_iload dX8_factor_126 rfl ?_
            refine G_i2l dX8_factor_128 ?_
            refine G_lstore dX8_factor_129 (ltb rfl) ?_
            change GG _ _ _ _ _ _ _ _ _ _ [some (.ref 0), none, some (.long 1), none, some (.long v6.toInt64), none, some (.int v6), some (.int v7), some (.int v8)] _
            refine G_iinc 1 dX8_factor_131 (by decide) rfl (ltb rfl) ?_
            change GG _ _ _ _ _ _ _ _ _ _ [some (.ref 0), none, some (.long 1), none, some (.long v6.toInt64), none, some (.int (v6 + 1)), some (.int v7), some (.int v8)] _
            refine G_goto 23 dX8_factor_134 (by decide) ?_
            refine GG.sb (lv2 := [some (.ref 0), none, some (.long 1), none, some (.long v6.toInt64), none, some (.int (v6 + 1)), none, none]) ?_ (lvS_v rfl (lvS_n (lvS_v rfl (lvS_n (lvS_v rfl (lvS_n (lvS_v rfl (lvS_n (lvS_n (lvS_e))))))))))
            exact hk23 hf
    · replace hf := ob_f h1 hf
      refine G_aload_n dX8_factor_47 rfl rfl ?_
      refine G_get (v := .ref 2) F_X8_36 dX8_factor_48 rfl rfl ?_
      refine G_sipush 4096 dX8_factor_51 (by decide) ?_
      refine G_iload dX8_factor_54 rfl ?_
      refine G_imul dX8_factor_56 ?_
      refine G_iload dX8_factor_57 rfl ?_
      refine G_iadd dX8_factor_59 ?_
      obtain ⟨t5, ht5, hf⟩ := ob hf
      refine G_iald dX8_factor_60 rfl ht5 ?_
      refine G_iload dX8_factor_61 rfl ?_
      refine G_icmp_le 83 dX8_factor_63 (by decide) (fun h6 => ?_) (fun h6 => ?_)
      · replace hf := ob_t h6 hf
        refine G_iload dX8_factor_83 rfl ?_
        refine G_istore dX8_factor_85 (ltb rfl) ?_
        change GG _ _ _ _ _ _ _ _ _ _ [some (.ref 0), none, some (.long v2), none, some (.long v4), none, some (.int v6), some (.int v7), some (.int v8)] _
        refine G_iinc 1 dX8_factor_87 (by decide) rfl (ltb rfl) ?_
        change GG _ _ _ _ _ _ _ _ _ _ [some (.ref 0), none, some (.long v2), none, some (.long v4), none, some (.int v6), some (.int v7), some (.int (v8 + 1))] _
        refine G_goto 38 dX8_factor_90 (by decide) ?_
        exact ih hf
      · replace hf := ob_f h6 hf
        refine G_aload_n dX8_factor_66 rfl rfl ?_
        refine G_get (v := .ref 2) F_X8_36 dX8_factor_67 rfl rfl ?_
        refine G_sipush 4096 dX8_factor_70 (by decide) ?_
        refine G_iload dX8_factor_73 rfl ?_
        refine G_imul dX8_factor_75 ?_
        refine G_iload dX8_factor_76 rfl ?_
        refine G_iadd dX8_factor_78 ?_
        obtain ⟨t7, ht7, hf⟩ := ob hf
        refine G_iald dX8_factor_79 rfl ht7 ?_
        refine G_goto 85 dX8_factor_80 (by decide) ?_
        refine G_istore dX8_factor_85 (ltb rfl) ?_
        change GG _ _ _ _ _ _ _ _ _ _ [some (.ref 0), none, some (.long v2), none, some (.long v4), none, some (.int v6), some (.int t7), some (.int v8)] _
        refine G_iinc 1 dX8_factor_87 (by decide) rfl (ltb rfl) ?_
        change GG _ _ _ _ _ _ _ _ _ _ [some (.ref 0), none, some (.long v2), none, some (.long v4), none, some (.int v6), some (.int t7), some (.int (v8 + 1))] _
        refine G_goto 38 dX8_factor_90 (by decide) ?_
        exact ih hf
def f_X8_factor_23 (N : Nat) (c_askers : Int32) (c_places : Int32) (c_seats : Nat → Int32) (c_told : Nat → Int32) (c_wish : Nat → Int32) : Nat → Int64 → Int64 → Int32 → (Nat → Int32) → (Nat → Int32) → (Nat → Int32) → Int64 → Int64 → Int32 → Option (Int32 × Int64 × Int64 × Int32 × (Nat → Int32) × (Nat → Int32) × (Nat → Int32))
  | 0, _, _, _, _, _, _, _, _, _ => none
  | n + 1, c_above, c_below, c_full, c_next, c_prefer, c_weight, v2, v4, v6 =>
    (if c_askers < v6 then
      (f_X8_tells N c_above c_below v2 v4).bind fun (r2, o3, o4) =>
      some (r2, o3, o4, c_full, c_next, c_prefer, c_weight)
    else
      f_X8_factor_38 N c_askers c_places c_seats c_told c_wish (f_X8_factor_23 N c_askers c_places c_seats c_told c_wish n) N c_above c_below c_full c_next c_prefer c_weight v2 v4 v6 0 0)
set_option maxHeartbeats 4000000 in
set_option maxRecDepth 100000 in
theorem g_X8_factor_23 {κ : KC} {ω : KW} {A : Nat → Prop} {ad : Nat → Nat} {u_firsts : Int32} {u_freed : Int32} {u_whole : Int64} {N : Nat} {c_askers : Int32} {c_places : Int32} {c_seats : Nat → Int32} {c_told : Nat → Int32} {c_wish : Nat → Int32}  {res : Int32 × Int64 × Int64 × Int32 × (Nat → Int32) × (Nat → Int32) × (Nat → Int32)} : ∀ (n : Nat) {c_above : Int64} {c_below : Int64} {c_full : Int32} {c_next : Nat → Int32} {c_prefer : Nat → Int32} {c_weight : Nat → Int32} {v2 : Int64} {v4 : Int64} {v6 : Int32}, f_X8_factor_23 N c_askers c_places c_seats c_told c_wish n c_above c_below c_full c_next c_prefer c_weight v2 v4 v6 = some res → GG mu_X8_factor κ ω A (QR κ ω A ad (some (.int res.1)) (w_X8_factor c_askers c_places res.2.1 res.2.2.1 res.2.2.2.1 res.2.2.2.2.1 res.2.2.2.2.2.1 c_seats c_told res.2.2.2.2.2.2 c_wish u_firsts u_freed u_whole)) ad 0 0 23 (w_X8_factor c_askers c_places c_above c_below c_full c_next c_prefer c_seats c_told c_weight c_wish u_firsts u_freed u_whole) [some (.ref 0), none, some (.long v2), none, some (.long v4), none, some (.int v6), none, none] [] := by
  intro n
  induction n with
  | zero => intro c_above c_below c_full c_next c_prefer c_weight v2 v4 v6 hf; exact ob_0 hf
  | succ n ih =>
    intro c_above c_below c_full c_next c_prefer c_weight v2 v4 v6 hf
    refine G_iload dX8_factor_23 rfl ?_
    refine G_aload_n dX8_factor_25 rfl rfl ?_
    refine G_get (v := .int c_askers) F_X8_89 dX8_factor_26 rfl rfl ?_
    refine G_icmp_gt 137 dX8_factor_29 (by decide) (fun h1 => ?_) (fun h1 => ?_)
    · replace hf := ob_t h1 hf
      refine G_aload_n dX8_factor_137 rfl rfl ?_
      refine G_lload_n dX8_factor_138 rfl rfl ?_
      refine G_lload dX8_factor_139 rfl ?_
      obtain ⟨⟨r2, o3, o4⟩, hc5, hf⟩ := ob hf
      refine G_callV (μ2 := mu_X8_tells) (As := [.long v2, .long v4]) (w2 := (w_X8_factor c_askers c_places o3 o4 c_full c_next c_prefer c_seats c_told c_weight c_wish u_firsts u_freed u_whole)) (wc := (w_X8_tells c_above c_below c_askers c_places c_full u_firsts u_freed u_whole)) (wc2 := (w_X8_tells o3 o4 c_askers c_places c_full u_firsts u_freed u_whole)) (rest := []) (rv := [.int r2]) [0] [3, 6, 4, 5, 1000, 1001, 1002, 1003, 2, 1, 1004, 1005, 1006, 1007, 1008, 1009, 1010, 1011, 1012, 1013, 1014] [1, 2, 3, 4, 5, 6] [6, 0, 1, 2, 3, 4, 5] (c_X8_tells hc5) cw_X8_tells m_X8_166 dX8_factor_141 rfl ⟨leb rfl, leb rfl⟩ ⟨rfl, rfl⟩ rfl ⟨_, rfl, rfl⟩ (Fit.mk rfl rfl rfl) rfl (leb rfl) (ROsub.nil rfl rfl) rfl ?_
      change GG _ _ _ _ _ _ _ _ _ (w_X8_factor c_askers c_places o3 o4 c_full c_next c_prefer c_seats c_told c_weight c_wish u_firsts u_freed u_whole) [some (.ref 0), none, some (.long v2), none, some (.long v4), none, some (.int v6), none, none] [.int r2]
      obtain rfl := os hf
      exact G_ireturn dX8_factor_144 rfl
    · replace hf := ob_f h1 hf
      refine G_iconst 0 dX8_factor_32 (by decide) ?_
      refine G_istore dX8_factor_33 (ltb rfl) ?_
      change GG _ _ _ _ _ _ _ _ _ _ [some (.ref 0), none, some (.long v2), none, some (.long v4), none, some (.int v6), some (.int 0), none] _
      refine G_iconst 0 dX8_factor_35 (by decide) ?_
      refine G_istore dX8_factor_36 (ltb rfl) ?_
      change GG _ _ _ _ _ _ _ _ _ _ [some (.ref 0), none, some (.long v2), none, some (.long v4), none, some (.int v6), some (.int 0), some (.int 0)] _
      exact g_X8_factor_38 ih N hf
def f_X8_factor (N : Nat) (c_askers : Int32) (c_places : Int32) (c_seats : Nat → Int32) (c_told : Nat → Int32) (c_wish : Nat → Int32) (c_above : Int64) (c_below : Int64) (c_full : Int32) (c_next : Nat → Int32) (c_prefer : Nat → Int32) (c_weight : Nat → Int32) (a1 : Int32) : Option (Int32 × Int64 × Int64 × Int32 × (Nat → Int32) × (Nat → Int32) × (Nat → Int32)) :=
  (f_X8_isTold N a1).bind fun r1 =>
  (if r1 = 0 then
    some ((-2 : Int32), c_above, c_below, c_full, c_next, c_prefer, c_weight)
  else
    (f_X8_findPrefer N c_askers c_places c_seats c_told c_wish c_full c_next c_prefer c_weight a1).bind fun (o4, o5, o6, o7) =>
    f_X8_factor_23 N c_askers c_places c_seats c_told c_wish N c_above c_below o4 o5 o6 o7 0 1 0)
set_option maxHeartbeats 4000000 in
set_option maxRecDepth 100000 in
theorem c_X8_factor {N : Nat} {c_askers : Int32} {c_places : Int32} {c_seats : Nat → Int32} {c_told : Nat → Int32} {c_wish : Nat → Int32} {c_above : Int64} {c_below : Int64} {c_full : Int32} {c_next : Nat → Int32} {c_prefer : Nat → Int32} {c_weight : Nat → Int32} {u_firsts : Int32} {u_freed : Int32} {u_whole : Int64} {a1 : Int32} {res : Int32 × Int64 × Int64 × Int32 × (Nat → Int32) × (Nat → Int32) × (Nat → Int32)} (hf : f_X8_factor N c_askers c_places c_seats c_told c_wish c_above c_below c_full c_next c_prefer c_weight a1 = some res) : Con mu_X8_factor [.ref 0, .int a1] (w_X8_factor c_askers c_places c_above c_below c_full c_next c_prefer c_seats c_told c_weight c_wish u_firsts u_freed u_whole) (some (.int res.1)) (w_X8_factor c_askers c_places res.2.1 res.2.2.1 res.2.2.2.1 res.2.2.2.2.1 res.2.2.2.2.2.1 c_seats c_told res.2.2.2.2.2.2 c_wish u_firsts u_freed u_whole) := by
  refine Con.mk (show plainName RX8 = true by decide +kernel) (leb rfl) (fun κ ω A ad => ?_)
  change GG mu_X8_factor κ ω A (QR κ ω A ad (some (.int res.1)) (w_X8_factor c_askers c_places res.2.1 res.2.2.1 res.2.2.2.1 res.2.2.2.2.1 res.2.2.2.2.2.1 c_seats c_told res.2.2.2.2.2.2 c_wish u_firsts u_freed u_whole)) ad 0 0 0 (w_X8_factor c_askers c_places c_above c_below c_full c_next c_prefer c_seats c_told c_weight c_wish u_firsts u_freed u_whole) [some (.ref 0), some (.int a1), none, none, none, none, none, none, none] []
  refine G_iload_n dX8_factor_0 rfl rfl ?_
  obtain ⟨r1, hc2, hf⟩ := ob hf
  refine G_callS (μ2 := mu_X8_isTold) (As := [.int a1]) (w2 := (w_X8_factor c_askers c_places c_above c_below c_full c_next c_prefer c_seats c_told c_weight c_wish u_firsts u_freed u_whole)) (wc := []) (wc2 := []) (rest := []) (rv := [.int r1]) [] [] [0, 1, 2, 3, 4, 5, 6] [0, 1, 2, 3, 4, 5, 6] (c_X8_isTold hc2) cw_X8_isTold m_X8_127 rfl dX8_factor_1 rfl ⟨leb rfl, leb rfl⟩ ⟨rfl, rfl⟩ (Fit.mk rfl rfl rfl) rfl (leb rfl) (ROsub.nil rfl rfl) rfl ?_
  change GG _ _ _ _ _ _ _ _ _ (w_X8_factor c_askers c_places c_above c_below c_full c_next c_prefer c_seats c_told c_weight c_wish u_firsts u_freed u_whole) [some (.ref 0), some (.int a1), none, none, none, none, none, none, none] [.int r1]
  refine G_if_ne 10 dX8_factor_4 (by decide) (fun h3 => ?_) (fun h3 => ?_)
  · replace hf := ob_f h3 hf
    refine G_aload_n dX8_factor_10 rfl rfl ?_
    refine G_iload_n dX8_factor_11 rfl rfl ?_
    obtain ⟨⟨o4, o5, o6, o7⟩, hc8, hf⟩ := ob hf
    refine G_callV (μ2 := mu_X8_findPrefer) (As := [.int a1]) (w2 := (w_X8_factor c_askers c_places c_above c_below o4 o5 o6 c_seats c_told o7 c_wish u_firsts u_freed u_whole)) (wc := (w_X8_findPrefer c_askers c_places c_full c_next c_prefer c_seats c_told c_weight c_wish c_above c_below u_firsts u_freed u_whole)) (wc2 := (w_X8_findPrefer c_askers c_places o4 o5 o6 c_seats c_told o7 c_wish c_above c_below u_firsts u_freed u_whole)) (rest := []) (rv := []) [0, 1, 2, 3, 4, 5, 6] [1000, 1001, 1002, 1003, 1004, 1005, 1006, 1007, 1008, 1009, 1010, 1011, 1012, 1013, 1014] [] [0, 1, 2, 3, 4, 5, 6] (c_X8_findPrefer hc8) cw_X8_findPrefer m_X8_163 dX8_factor_12 rfl ⟨leb rfl, leb rfl⟩ ⟨rfl, rfl⟩ rfl ⟨_, rfl, rfl⟩ (Fit.mk rfl rfl rfl) rfl (leb rfl) (ROsub.nil rfl rfl) rfl ?_
    change GG _ _ _ _ _ _ _ _ _ (w_X8_factor c_askers c_places c_above c_below o4 o5 o6 c_seats c_told o7 c_wish u_firsts u_freed u_whole) [some (.ref 0), some (.int a1), none, none, none, none, none, none, none] []
    refine G_lconst 0 dX8_factor_15 (by decide) ?_
    refine G_lstore_n dX8_factor_16 rfl (ltb rfl) ?_
    change GG _ _ _ _ _ _ _ _ _ _ [some (.ref 0), some (.int a1), some (.long 0), none, none, none, none, none, none] _
    refine G_lconst 1 dX8_factor_17 (by decide) ?_
    refine G_lstore dX8_factor_18 (ltb rfl) ?_
    change GG _ _ _ _ _ _ _ _ _ _ [some (.ref 0), some (.int a1), some (.long 0), none, some (.long 1), none, none, none, none] _
    refine G_iconst 0 dX8_factor_20 (by decide) ?_
    refine G_istore dX8_factor_21 (ltb rfl) ?_
    change GG _ _ _ _ _ _ _ _ _ _ [some (.ref 0), some (.int a1), some (.long 0), none, some (.long 1), none, some (.int 0), none, none] _
    refine GG.sb (lv2 := [some (.ref 0), none, some (.long 0), none, some (.long 1), none, some (.int 0), none, none]) ?_ (lvS_v rfl (lvS_n (lvS_v rfl (lvS_n (lvS_v rfl (lvS_n (lvS_v rfl (lvS_n (lvS_n (lvS_e))))))))))
    exact g_X8_factor_23 N hf
  · replace hf := ob_t h3 hf
    refine G_bipush (-2 : Int32) dX8_factor_7 (by decide) ?_
    obtain rfl := os hf
    exact G_ireturn dX8_factor_9 rfl
set_option maxRecDepth 20000 in
theorem dX8_part_0 : decode cX8_part 0 = .ok (.iload_n 1, 1) := by decide +kernel
set_option maxRecDepth 20000 in
theorem dX8_part_1 : decode cX8_part 1 = .ok (.ifCond .ne 10, 3) := by decide +kernel
set_option maxRecDepth 20000 in
theorem dX8_part_4 : decode cX8_part 4 = .ok (.aload_n 0, 1) := by decide +kernel
set_option maxRecDepth 20000 in
theorem dX8_part_5 : decode cX8_part 5 = .ok (.getfield 86, 3) := by decide +kernel
set_option maxRecDepth 20000 in
theorem dX8_part_8 : decode cX8_part 8 = .ok (.goto 18, 3) := by decide +kernel
set_option maxRecDepth 20000 in
theorem dX8_part_11 : decode cX8_part 11 = .ok (.iload_n 1, 1) := by decide +kernel
set_option maxRecDepth 20000 in
theorem dX8_part_12 : decode cX8_part 12 = .ok (.iconst 1, 1) := by decide +kernel
set_option maxRecDepth 20000 in
theorem dX8_part_13 : decode cX8_part 13 = .ok (.if_icmp .ne 10, 3) := by decide +kernel
set_option maxRecDepth 20000 in
theorem dX8_part_16 : decode cX8_part 16 = .ok (.aload_n 0, 1) := by decide +kernel
set_option maxRecDepth 20000 in
theorem dX8_part_17 : decode cX8_part 17 = .ok (.getfield 78, 3) := by decide +kernel
set_option maxRecDepth 20000 in
theorem dX8_part_20 : decode cX8_part 20 = .ok (.goto 6, 3) := by decide +kernel
set_option maxRecDepth 20000 in
theorem dX8_part_23 : decode cX8_part 23 = .ok (.ldc2_w 148, 3) := by decide +kernel
set_option maxRecDepth 20000 in
theorem dX8_part_26 : decode cX8_part 26 = .ok (.lreturn, 1) := by decide +kernel
def f_X8_part (N : Nat) (c_above : Int64) (c_below : Int64) (a1 : Int32) : Option (Int64) :=
  (if a1 = 0 then
    some c_above
  else
    (if a1 = 1 then
      some c_below
    else
      some (-1 : Int64)))
set_option maxHeartbeats 4000000 in
set_option maxRecDepth 100000 in
theorem c_X8_part {N : Nat} {c_above : Int64} {c_below : Int64}  {u_askers : Int32} {u_places : Int32} {u_full : Int32} {u_firsts : Int32} {u_freed : Int32} {u_whole : Int64} {a1 : Int32} {res : Int64} (hf : f_X8_part N c_above c_below a1 = some res) : Con mu_X8_part [.ref 0, .int a1] (w_X8_part c_above c_below u_askers u_places u_full u_firsts u_freed u_whole) (some (.long res)) (w_X8_part c_above c_below u_askers u_places u_full u_firsts u_freed u_whole) := by
  refine Con.mk (show plainName RX8 = true by decide +kernel) (leb rfl) (fun κ ω A ad => ?_)
  change GG mu_X8_part κ ω A (QR κ ω A ad (some (.long res)) (w_X8_part c_above c_below u_askers u_places u_full u_firsts u_freed u_whole)) ad 0 0 0 (w_X8_part c_above c_below u_askers u_places u_full u_firsts u_freed u_whole) [some (.ref 0), some (.int a1)] []
  refine G_iload_n dX8_part_0 rfl rfl ?_
  refine G_if_ne 11 dX8_part_1 (by decide) (fun h1 => ?_) (fun h1 => ?_)
  · replace hf := ob_f h1 hf
    refine G_iload_n dX8_part_11 rfl rfl ?_
    refine G_iconst 1 dX8_part_12 (by decide) ?_
    refine G_icmp_ne 23 dX8_part_13 (by decide) (fun h2 => ?_) (fun h2 => ?_)
    · replace hf := ob_f h2 hf
      refine G_ldc2 (v := (-1 : Int64)) dX8_part_23 k_X8_148 ?_
      obtain rfl := os hf
      exact G_lreturn dX8_part_26 rfl
    · replace hf := ob_t h2 hf
      refine G_aload_n dX8_part_16 rfl rfl ?_
      refine G_get (v := .long c_below) F_X8_78 dX8_part_17 rfl rfl ?_
      refine G_goto 26 dX8_part_20 (by decide) ?_
      obtain rfl := os hf
      exact G_lreturn dX8_part_26 rfl
  · replace hf := ob_t h1 hf
    refine G_aload_n dX8_part_4 rfl rfl ?_
    refine G_get (v := .long c_above) F_X8_86 dX8_part_5 rfl rfl ?_
    refine G_goto 26 dX8_part_8 (by decide) ?_
    obtain rfl := os hf
    exact G_lreturn dX8_part_26 rfl
set_option maxRecDepth 20000 in
theorem dX8_mostFirsts_0 : decode cX8_mostFirsts 0 = .ok (.iconst 0, 1) := by decide +kernel
set_option maxRecDepth 20000 in
theorem dX8_mostFirsts_1 : decode cX8_mostFirsts 1 = .ok (.istore_n 2, 1) := by decide +kernel
set_option maxRecDepth 20000 in
theorem dX8_mostFirsts_2 : decode cX8_mostFirsts 2 = .ok (.iload_n 2, 1) := by decide +kernel
set_option maxRecDepth 20000 in
theorem dX8_mostFirsts_3 : decode cX8_mostFirsts 3 = .ok (.aload_n 0, 1) := by decide +kernel
set_option maxRecDepth 20000 in
theorem dX8_mostFirsts_4 : decode cX8_mostFirsts 4 = .ok (.getfield 89, 3) := by decide +kernel
set_option maxRecDepth 20000 in
theorem dX8_mostFirsts_7 : decode cX8_mostFirsts 7 = .ok (.if_icmp .ge 91, 3) := by decide +kernel
set_option maxRecDepth 20000 in
theorem dX8_mostFirsts_10 : decode cX8_mostFirsts 10 = .ok (.iconst 0, 1) := by decide +kernel
set_option maxRecDepth 20000 in
theorem dX8_mostFirsts_11 : decode cX8_mostFirsts 11 = .ok (.istore_n 3, 1) := by decide +kernel
set_option maxRecDepth 20000 in
theorem dX8_mostFirsts_12 : decode cX8_mostFirsts 12 = .ok (.iload_n 3, 1) := by decide +kernel
set_option maxRecDepth 20000 in
theorem dX8_mostFirsts_13 : decode cX8_mostFirsts 13 = .ok (.aload_n 0, 1) := by decide +kernel
set_option maxRecDepth 20000 in
theorem dX8_mostFirsts_14 : decode cX8_mostFirsts 14 = .ok (.getfield 97, 3) := by decide +kernel
set_option maxRecDepth 20000 in
theorem dX8_mostFirsts_17 : decode cX8_mostFirsts 17 = .ok (.if_icmp .gt 75, 3) := by decide +kernel
set_option maxRecDepth 20000 in
theorem dX8_mostFirsts_20 : decode cX8_mostFirsts 20 = .ok (.aload_n 0, 1) := by decide +kernel
set_option maxRecDepth 20000 in
theorem dX8_mostFirsts_21 : decode cX8_mostFirsts 21 = .ok (.getfield 30, 3) := by decide +kernel
set_option maxRecDepth 20000 in
theorem dX8_mostFirsts_24 : decode cX8_mostFirsts 24 = .ok (.bipush 7, 2) := by decide +kernel
set_option maxRecDepth 20000 in
theorem dX8_mostFirsts_26 : decode cX8_mostFirsts 26 = .ok (.iload_n 2, 1) := by decide +kernel
set_option maxRecDepth 20000 in
theorem dX8_mostFirsts_27 : decode cX8_mostFirsts 27 = .ok (.imul, 1) := by decide +kernel
set_option maxRecDepth 20000 in
theorem dX8_mostFirsts_28 : decode cX8_mostFirsts 28 = .ok (.iload_n 3, 1) := by decide +kernel
set_option maxRecDepth 20000 in
theorem dX8_mostFirsts_29 : decode cX8_mostFirsts 29 = .ok (.iadd, 1) := by decide +kernel
set_option maxRecDepth 20000 in
theorem dX8_mostFirsts_30 : decode cX8_mostFirsts 30 = .ok (.iload_n 3, 1) := by decide +kernel
set_option maxRecDepth 20000 in
theorem dX8_mostFirsts_31 : decode cX8_mostFirsts 31 = .ok (.ifCond .ne 7, 3) := by decide +kernel
set_option maxRecDepth 20000 in
theorem dX8_mostFirsts_34 : decode cX8_mostFirsts 34 = .ok (.lconst 0, 1) := by decide +kernel
set_option maxRecDepth 20000 in
theorem dX8_mostFirsts_35 : decode cX8_mostFirsts 35 = .ok (.goto 50, 3) := by decide +kernel
set_option maxRecDepth 20000 in
theorem dX8_mostFirsts_38 : decode cX8_mostFirsts 38 = .ok (.aload_n 0, 1) := by decide +kernel
set_option maxRecDepth 20000 in
theorem dX8_mostFirsts_39 : decode cX8_mostFirsts 39 = .ok (.getfield 13, 3) := by decide +kernel
set_option maxRecDepth 20000 in
theorem dX8_mostFirsts_42 : decode cX8_mostFirsts 42 = .ok (.bipush 6, 2) := by decide +kernel
set_option maxRecDepth 20000 in
theorem dX8_mostFirsts_44 : decode cX8_mostFirsts 44 = .ok (.iload_n 2, 1) := by decide +kernel
set_option maxRecDepth 20000 in
theorem dX8_mostFirsts_45 : decode cX8_mostFirsts 45 = .ok (.imul, 1) := by decide +kernel
set_option maxRecDepth 20000 in
theorem dX8_mostFirsts_46 : decode cX8_mostFirsts 46 = .ok (.iload_n 3, 1) := by decide +kernel
set_option maxRecDepth 20000 in
theorem dX8_mostFirsts_47 : decode cX8_mostFirsts 47 = .ok (.iadd, 1) := by decide +kernel
set_option maxRecDepth 20000 in
theorem dX8_mostFirsts_48 : decode cX8_mostFirsts 48 = .ok (.iconst 1, 1) := by decide +kernel
set_option maxRecDepth 20000 in
theorem dX8_mostFirsts_49 : decode cX8_mostFirsts 49 = .ok (.isub, 1) := by decide +kernel
set_option maxRecDepth 20000 in
theorem dX8_mostFirsts_50 : decode cX8_mostFirsts 50 = .ok (.iaload, 1) := by decide +kernel
set_option maxRecDepth 20000 in
theorem dX8_mostFirsts_51 : decode cX8_mostFirsts 51 = .ok (.ifCond .le 31, 3) := by decide +kernel
set_option maxRecDepth 20000 in
theorem dX8_mostFirsts_54 : decode cX8_mostFirsts 54 = .ok (.aload_n 0, 1) := by decide +kernel
set_option maxRecDepth 20000 in
theorem dX8_mostFirsts_55 : decode cX8_mostFirsts 55 = .ok (.getfield 13, 3) := by decide +kernel
set_option maxRecDepth 20000 in
theorem dX8_mostFirsts_58 : decode cX8_mostFirsts 58 = .ok (.bipush 6, 2) := by decide +kernel
set_option maxRecDepth 20000 in
theorem dX8_mostFirsts_60 : decode cX8_mostFirsts 60 = .ok (.iload_n 2, 1) := by decide +kernel
set_option maxRecDepth 20000 in
theorem dX8_mostFirsts_61 : decode cX8_mostFirsts 61 = .ok (.imul, 1) := by decide +kernel
set_option maxRecDepth 20000 in
theorem dX8_mostFirsts_62 : decode cX8_mostFirsts 62 = .ok (.iload_n 3, 1) := by decide +kernel
set_option maxRecDepth 20000 in
theorem dX8_mostFirsts_63 : decode cX8_mostFirsts 63 = .ok (.iadd, 1) := by decide +kernel
set_option maxRecDepth 20000 in
theorem dX8_mostFirsts_64 : decode cX8_mostFirsts 64 = .ok (.iconst 1, 1) := by decide +kernel
set_option maxRecDepth 20000 in
theorem dX8_mostFirsts_65 : decode cX8_mostFirsts 65 = .ok (.isub, 1) := by decide +kernel
set_option maxRecDepth 20000 in
theorem dX8_mostFirsts_66 : decode cX8_mostFirsts 66 = .ok (.iaload, 1) := by decide +kernel
set_option maxRecDepth 20000 in
theorem dX8_mostFirsts_67 : decode cX8_mostFirsts 67 = .ok (.aload_n 0, 1) := by decide +kernel
set_option maxRecDepth 20000 in
theorem dX8_mostFirsts_68 : decode cX8_mostFirsts 68 = .ok (.getfield 42, 3) := by decide +kernel
set_option maxRecDepth 20000 in
theorem dX8_mostFirsts_71 : decode cX8_mostFirsts 71 = .ok (.iload_n 2, 1) := by decide +kernel
set_option maxRecDepth 20000 in
theorem dX8_mostFirsts_72 : decode cX8_mostFirsts 72 = .ok (.iaload, 1) := by decide +kernel
set_option maxRecDepth 20000 in
theorem dX8_mostFirsts_73 : decode cX8_mostFirsts 73 = .ok (.if_icmp .ne 9, 3) := by decide +kernel
set_option maxRecDepth 20000 in
theorem dX8_mostFirsts_76 : decode cX8_mostFirsts 76 = .ok (.ldc2_w 148, 3) := by decide +kernel
set_option maxRecDepth 20000 in
theorem dX8_mostFirsts_79 : decode cX8_mostFirsts 79 = .ok (.goto 6, 3) := by decide +kernel
set_option maxRecDepth 20000 in
theorem dX8_mostFirsts_82 : decode cX8_mostFirsts 82 = .ok (.ldc2_w 130, 3) := by decide +kernel
set_option maxRecDepth 20000 in
theorem dX8_mostFirsts_85 : decode cX8_mostFirsts 85 = .ok (.lastore, 1) := by decide +kernel
set_option maxRecDepth 20000 in
theorem dX8_mostFirsts_86 : decode cX8_mostFirsts 86 = .ok (.iinc 3 1, 3) := by decide +kernel
set_option maxRecDepth 20000 in
theorem dX8_mostFirsts_89 : decode cX8_mostFirsts 89 = .ok (.goto (-77), 3) := by decide +kernel
set_option maxRecDepth 20000 in
theorem dX8_mostFirsts_92 : decode cX8_mostFirsts 92 = .ok (.iinc 2 1, 3) := by decide +kernel
set_option maxRecDepth 20000 in
theorem dX8_mostFirsts_95 : decode cX8_mostFirsts 95 = .ok (.goto (-93), 3) := by decide +kernel
set_option maxRecDepth 20000 in
theorem dX8_mostFirsts_98 : decode cX8_mostFirsts 98 = .ok (.iconst 0, 1) := by decide +kernel
set_option maxRecDepth 20000 in
theorem dX8_mostFirsts_99 : decode cX8_mostFirsts 99 = .ok (.istore_n 2, 1) := by decide +kernel
set_option maxRecDepth 20000 in
theorem dX8_mostFirsts_100 : decode cX8_mostFirsts 100 = .ok (.iload_n 1, 1) := by decide +kernel
set_option maxRecDepth 20000 in
theorem dX8_mostFirsts_101 : decode cX8_mostFirsts 101 = .ok (.iconst (-1), 1) := by decide +kernel
set_option maxRecDepth 20000 in
theorem dX8_mostFirsts_102 : decode cX8_mostFirsts 102 = .ok (.if_icmp .eq 20, 3) := by decide +kernel
set_option maxRecDepth 20000 in
theorem dX8_mostFirsts_105 : decode cX8_mostFirsts 105 = .ok (.aload_n 0, 1) := by decide +kernel
set_option maxRecDepth 20000 in
theorem dX8_mostFirsts_106 : decode cX8_mostFirsts 106 = .ok (.getfield 7, 3) := by decide +kernel
set_option maxRecDepth 20000 in
theorem dX8_mostFirsts_109 : decode cX8_mostFirsts 109 = .ok (.iload_n 1, 1) := by decide +kernel
set_option maxRecDepth 20000 in
theorem dX8_mostFirsts_110 : decode cX8_mostFirsts 110 = .ok (.iaload, 1) := by decide +kernel
set_option maxRecDepth 20000 in
theorem dX8_mostFirsts_111 : decode cX8_mostFirsts 111 = .ok (.istore_n 2, 1) := by decide +kernel
set_option maxRecDepth 20000 in
theorem dX8_mostFirsts_112 : decode cX8_mostFirsts 112 = .ok (.aload_n 0, 1) := by decide +kernel
set_option maxRecDepth 20000 in
theorem dX8_mostFirsts_113 : decode cX8_mostFirsts 113 = .ok (.getfield 7, 3) := by decide +kernel
set_option maxRecDepth 20000 in
theorem dX8_mostFirsts_116 : decode cX8_mostFirsts 116 = .ok (.iload_n 1, 1) := by decide +kernel
set_option maxRecDepth 20000 in
theorem dX8_mostFirsts_117 : decode cX8_mostFirsts 117 = .ok (.dup2, 1) := by decide +kernel
set_option maxRecDepth 20000 in
theorem dX8_mostFirsts_118 : decode cX8_mostFirsts 118 = .ok (.iaload, 1) := by decide +kernel
set_option maxRecDepth 20000 in
theorem dX8_mostFirsts_119 : decode cX8_mostFirsts 119 = .ok (.iconst 1, 1) := by decide +kernel
set_option maxRecDepth 20000 in
theorem dX8_mostFirsts_120 : decode cX8_mostFirsts 120 = .ok (.isub, 1) := by decide +kernel
set_option maxRecDepth 20000 in
theorem dX8_mostFirsts_121 : decode cX8_mostFirsts 121 = .ok (.iastore, 1) := by decide +kernel
set_option maxRecDepth 20000 in
theorem dX8_mostFirsts_122 : decode cX8_mostFirsts 122 = .ok (.aload_n 0, 1) := by decide +kernel
set_option maxRecDepth 20000 in
theorem dX8_mostFirsts_123 : decode cX8_mostFirsts 123 = .ok (.invokevirtual 144, 3) := by decide +kernel
set_option maxRecDepth 20000 in
theorem dX8_mostFirsts_126 : decode cX8_mostFirsts 126 = .ok (.lneg, 1) := by decide +kernel
set_option maxRecDepth 20000 in
theorem dX8_mostFirsts_127 : decode cX8_mostFirsts 127 = .ok (.l2i, 1) := by decide +kernel
set_option maxRecDepth 20000 in
theorem dX8_mostFirsts_128 : decode cX8_mostFirsts 128 = .ok (.istore_n 3, 1) := by decide +kernel
set_option maxRecDepth 20000 in
theorem dX8_mostFirsts_129 : decode cX8_mostFirsts 129 = .ok (.iload_n 1, 1) := by decide +kernel
set_option maxRecDepth 20000 in
theorem dX8_mostFirsts_130 : decode cX8_mostFirsts 130 = .ok (.iconst (-1), 1) := by decide +kernel
set_option maxRecDepth 20000 in
theorem dX8_mostFirsts_131 : decode cX8_mostFirsts 131 = .ok (.if_icmp .eq 10, 3) := by decide +kernel
set_option maxRecDepth 20000 in
theorem dX8_mostFirsts_134 : decode cX8_mostFirsts 134 = .ok (.aload_n 0, 1) := by decide +kernel
set_option maxRecDepth 20000 in
theorem dX8_mostFirsts_135 : decode cX8_mostFirsts 135 = .ok (.getfield 7, 3) := by decide +kernel
set_option maxRecDepth 20000 in
theorem dX8_mostFirsts_138 : decode cX8_mostFirsts 138 = .ok (.iload_n 1, 1) := by decide +kernel
set_option maxRecDepth 20000 in
theorem dX8_mostFirsts_139 : decode cX8_mostFirsts 139 = .ok (.iload_n 2, 1) := by decide +kernel
set_option maxRecDepth 20000 in
theorem dX8_mostFirsts_140 : decode cX8_mostFirsts 140 = .ok (.iastore, 1) := by decide +kernel
set_option maxRecDepth 20000 in
theorem dX8_mostFirsts_141 : decode cX8_mostFirsts 141 = .ok (.iload_n 3, 1) := by decide +kernel
set_option maxRecDepth 20000 in
theorem dX8_mostFirsts_142 : decode cX8_mostFirsts 142 = .ok (.ireturn, 1) := by decide +kernel
def f_X8_mostFirsts_122 (N : Nat) (c_askers : Int32) (c_places : Int32) (c_firstWorth : Nat → Int32) (c_wish : Nat → Int32) (c_full : Int32) (c_cost : Nat → Int64) (c_found : Nat → Int32) (c_least : Nat → Int64) (c_seats : Nat → Int32) (c_weight : Nat → Int32) (v1 : Int32) (v2 : Int32) : Option (Int32 × Int32 × (Nat → Int64) × (Nat → Int32) × (Nat → Int64) × (Nat → Int32) × (Nat → Int32)) :=
    (f_X8_findLeast N c_askers c_places c_cost c_seats c_wish c_full c_found c_least c_weight).bind fun (r1, o2, o3, o4, o5) =>
    (if v1 = (-1 : Int32) then
      some ((-r1).toInt32, o2, c_cost, o3, o4, c_seats, o5)
    else
      (wrI 6 c_seats v1 v2).bind fun t8 =>
      some ((-r1).toInt32, o2, c_cost, o3, o4, t8, o5))
set_option maxHeartbeats 4000000 in
set_option maxRecDepth 100000 in
theorem g_X8_mostFirsts_122 {κ : KC} {ω : KW} {A : Nat → Prop} {ad : Nat → Nat} {u_above : Int64} {u_below : Int64} {u_firsts : Int32} {u_freed : Int32} {u_whole : Int64} {N : Nat} {c_askers : Int32} {c_places : Int32} {c_firstWorth : Nat → Int32} {c_wish : Nat → Int32}  {res : Int32 × Int32 × (Nat → Int64) × (Nat → Int32) × (Nat → Int64) × (Nat → Int32) × (Nat → Int32)} {c_full : Int32} {c_cost : Nat → Int64} {c_found : Nat → Int32} {c_least : Nat → Int64} {c_seats : Nat → Int32} {c_weight : Nat → Int32} {v1 : Int32} {v2 : Int32} (hf : f_X8_mostFirsts_122 N c_askers c_places c_firstWorth c_wish c_full c_cost c_found c_least c_seats c_weight v1 v2 = some res) : GG mu_X8_mostFirsts κ ω A (QR κ ω A ad (some (.int res.1)) (w_X8_mostFirsts c_askers c_places res.2.1 res.2.2.1 c_firstWorth res.2.2.2.1 res.2.2.2.2.1 res.2.2.2.2.2.1 res.2.2.2.2.2.2 c_wish u_above u_below u_firsts u_freed u_whole)) ad 0 0 122 (w_X8_mostFirsts c_askers c_places c_full c_cost c_firstWorth c_found c_least c_seats c_weight c_wish u_above u_below u_firsts u_freed u_whole) [some (.ref 0), some (.int v1), some (.int v2), none] [] := by
  refine G_aload_n dX8_mostFirsts_122 rfl rfl ?_
  obtain ⟨⟨r1, o2, o3, o4, o5⟩, hc6, hf⟩ := ob hf
  refine G_callV (μ2 := mu_X8_findLeast) (As := []) (w2 := (w_X8_mostFirsts c_askers c_places o2 c_cost c_firstWorth o3 o4 c_seats o5 c_wish u_above u_below u_firsts u_freed u_whole)) (wc := (w_X8_findLeast c_askers c_places c_full c_cost c_found c_least c_seats c_weight c_wish u_above u_below u_firsts u_freed u_whole)) (wc2 := (w_X8_findLeast c_askers c_places o2 c_cost o3 o4 c_seats o5 c_wish u_above u_below u_firsts u_freed u_whole)) (rest := []) (rv := [.long r1]) [0, 1, 3, 4, 5, 6, 7] [1000, 1001, 1002, 1003, 2, 1004, 1005, 1006, 1007, 1008, 1009, 1010, 1011, 1012, 1013] [2] [1, 2, 0, 3, 4, 5, 6, 7] (c_X8_findLeast hc6) cw_X8_findLeast m_X8_144 dX8_mostFirsts_123 rfl ⟨leb rfl, leb rfl⟩ ⟨rfl, rfl⟩ rfl ⟨_, rfl, rfl⟩ (Fit.mk rfl rfl rfl) rfl (leb rfl) (ROsub.nil rfl rfl) rfl ?_
  change GG _ _ _ _ _ _ _ _ _ (w_X8_mostFirsts c_askers c_places o2 c_cost c_firstWorth o3 o4 c_seats o5 c_wish u_above u_below u_firsts u_freed u_whole) [some (.ref 0), some (.int v1), some (.int v2), none] [.long r1]
  refine G_lneg dX8_mostFirsts_126 ?_
  refine G_l2i dX8_mostFirsts_127 ?_
  refine G_istore_n dX8_mostFirsts_128 rfl (ltb rfl) ?_
  change GG _ _ _ _ _ _ _ _ _ _ [some (.ref 0), some (.int v1), some (.int v2), some (.int ((-r1).toInt32))] _
  refine G_iload_n dX8_mostFirsts_129 rfl rfl ?_
  refine G_iconst (-1 : Int32) dX8_mostFirsts_130 (by decide) ?_
  refine G_icmp_eq 141 dX8_mostFirsts_131 (by decide) (fun h7 => ?_) (fun h7 => ?_)
  · replace hf := ob_t h7 hf
    refine G_iload_n dX8_mostFirsts_141 rfl rfl ?_
    obtain rfl := os hf
    exact G_ireturn dX8_mostFirsts_142 rfl
  · replace hf := ob_f h7 hf
    refine G_aload_n dX8_mostFirsts_134 rfl rfl ?_
    refine G_get (v := .ref 5) F_X8_7 dX8_mostFirsts_135 rfl rfl ?_
    refine G_iload_n dX8_mostFirsts_138 rfl rfl ?_
    refine G_iload_n dX8_mostFirsts_139 rfl rfl ?_
    obtain ⟨t8, ht8, hf⟩ := ob hf
    refine G_iast (w2 := (w_X8_mostFirsts c_askers c_places o2 c_cost c_firstWorth o3 o4 t8 o5 c_wish u_above u_below u_firsts u_freed u_whole)) dX8_mostFirsts_140 rfl ht8 rfl ?_
    refine G_iload_n dX8_mostFirsts_141 rfl rfl ?_
    obtain rfl := os hf
    exact G_ireturn dX8_mostFirsts_142 rfl
def f_X8_mostFirsts_85 (N : Nat) (c_askers : Int32) (c_places : Int32) (c_firstWorth : Nat → Int32) (c_wish : Nat → Int32) (k12 : Int32 → (Nat → Int64) → (Nat → Int32) → (Nat → Int64) → (Nat → Int32) → (Nat → Int32) → Int32 → Int32 → Int32 → Option (Int32 × Int32 × (Nat → Int64) × (Nat → Int32) × (Nat → Int64) × (Nat → Int32) × (Nat → Int32))) (c_full : Int32) (c_cost : Nat → Int64) (c_found : Nat → Int32) (c_least : Nat → Int64) (c_seats : Nat → Int32) (c_weight : Nat → Int32) (v1 : Int32) (v2 : Int32) (v3 : Int32) (s1 : Int32) (s2 : Int64) : Option (Int32 × Int32 × (Nat → Int64) × (Nat → Int32) × (Nat → Int64) × (Nat → Int32) × (Nat → Int32)) :=
    (wrL 56 c_cost s1 s2).bind fun t1 =>
    k12 c_full t1 c_found c_least c_seats c_weight v1 v2 (v3 + 1)
set_option maxHeartbeats 4000000 in
set_option maxRecDepth 100000 in
theorem g_X8_mostFirsts_85 {κ : KC} {ω : KW} {A : Nat → Prop} {ad : Nat → Nat} {u_above : Int64} {u_below : Int64} {u_firsts : Int32} {u_freed : Int32} {u_whole : Int64} {N : Nat} {c_askers : Int32} {c_places : Int32} {c_firstWorth : Nat → Int32} {c_wish : Nat → Int32}  {k12 : Int32 → (Nat → Int64) → (Nat → Int32) → (Nat → Int64) → (Nat → Int32) → (Nat → Int32) → Int32 → Int32 → Int32 → Option (Int32 × Int32 × (Nat → Int64) × (Nat → Int32) × (Nat → Int64) × (Nat → Int32) × (Nat → Int32))} {res : Int32 × Int32 × (Nat → Int64) × (Nat → Int32) × (Nat → Int64) × (Nat → Int32) × (Nat → Int32)} (hk12 : ∀ {c_full : Int32} {c_cost : Nat → Int64} {c_found : Nat → Int32} {c_least : Nat → Int64} {c_seats : Nat → Int32} {c_weight : Nat → Int32} {v1 : Int32} {v2 : Int32} {v3 : Int32}, k12 c_full c_cost c_found c_least c_seats c_weight v1 v2 v3 = some res → GG mu_X8_mostFirsts κ ω A (QR κ ω A ad (some (.int res.1)) (w_X8_mostFirsts c_askers c_places res.2.1 res.2.2.1 c_firstWorth res.2.2.2.1 res.2.2.2.2.1 res.2.2.2.2.2.1 res.2.2.2.2.2.2 c_wish u_above u_below u_firsts u_freed u_whole)) ad 0 0 12 (w_X8_mostFirsts c_askers c_places c_full c_cost c_firstWorth c_found c_least c_seats c_weight c_wish u_above u_below u_firsts u_freed u_whole) [some (.ref 0), some (.int v1), some (.int v2), some (.int v3)] []) {c_full : Int32} {c_cost : Nat → Int64} {c_found : Nat → Int32} {c_least : Nat → Int64} {c_seats : Nat → Int32} {c_weight : Nat → Int32} {v1 : Int32} {v2 : Int32} {v3 : Int32} {s1 : Int32} {s2 : Int64} (hf : f_X8_mostFirsts_85 N c_askers c_places c_firstWorth c_wish k12 c_full c_cost c_found c_least c_seats c_weight v1 v2 v3 s1 s2 = some res) : GG mu_X8_mostFirsts κ ω A (QR κ ω A ad (some (.int res.1)) (w_X8_mostFirsts c_askers c_places res.2.1 res.2.2.1 c_firstWorth res.2.2.2.1 res.2.2.2.2.1 res.2.2.2.2.2.1 res.2.2.2.2.2.2 c_wish u_above u_below u_firsts u_freed u_whole)) ad 0 0 85 (w_X8_mostFirsts c_askers c_places c_full c_cost c_firstWorth c_found c_least c_seats c_weight c_wish u_above u_below u_firsts u_freed u_whole) [some (.ref 0), some (.int v1), some (.int v2), some (.int v3)] [.long s2, .int s1, .ref 1] := by
  obtain ⟨t1, ht1, hf⟩ := ob hf
  refine G_last (w2 := (w_X8_mostFirsts c_askers c_places c_full t1 c_firstWorth c_found c_least c_seats c_weight c_wish u_above u_below u_firsts u_freed u_whole)) dX8_mostFirsts_85 rfl ht1 rfl ?_
  refine G_iinc 1 dX8_mostFirsts_86 (by decide) rfl (ltb rfl) ?_
  change GG _ _ _ _ _ _ _ _ _ _ [some (.ref 0), some (.int v1), some (.int v2), some (.int (v3 + 1))] _
  refine G_goto 12 dX8_mostFirsts_89 (by decide) ?_
  exact hk12 hf
def f_X8_mostFirsts_82 (N : Nat) (c_askers : Int32) (c_places : Int32) (c_firstWorth : Nat → Int32) (c_wish : Nat → Int32) (k12 : Int32 → (Nat → Int64) → (Nat → Int32) → (Nat → Int64) → (Nat → Int32) → (Nat → Int32) → Int32 → Int32 → Int32 → Option (Int32 × Int32 × (Nat → Int64) × (Nat → Int32) × (Nat → Int64) × (Nat → Int32) × (Nat → Int32))) (c_full : Int32) (c_cost : Nat → Int64) (c_found : Nat → Int32) (c_least : Nat → Int64) (c_seats : Nat → Int32) (c_weight : Nat → Int32) (v1 : Int32) (v2 : Int32) (v3 : Int32) (s1 : Int32) : Option (Int32 × Int32 × (Nat → Int64) × (Nat → Int32) × (Nat → Int64) × (Nat → Int32) × (Nat → Int32)) :=
    f_X8_mostFirsts_85 N c_askers c_places c_firstWorth c_wish k12 c_full c_cost c_found c_least c_seats c_weight v1 v2 v3 s1 1000000000000000000
set_option maxHeartbeats 4000000 in
set_option maxRecDepth 100000 in
theorem g_X8_mostFirsts_82 {κ : KC} {ω : KW} {A : Nat → Prop} {ad : Nat → Nat} {u_above : Int64} {u_below : Int64} {u_firsts : Int32} {u_freed : Int32} {u_whole : Int64} {N : Nat} {c_askers : Int32} {c_places : Int32} {c_firstWorth : Nat → Int32} {c_wish : Nat → Int32}  {k12 : Int32 → (Nat → Int64) → (Nat → Int32) → (Nat → Int64) → (Nat → Int32) → (Nat → Int32) → Int32 → Int32 → Int32 → Option (Int32 × Int32 × (Nat → Int64) × (Nat → Int32) × (Nat → Int64) × (Nat → Int32) × (Nat → Int32))} {res : Int32 × Int32 × (Nat → Int64) × (Nat → Int32) × (Nat → Int64) × (Nat → Int32) × (Nat → Int32)} (hk12 : ∀ {c_full : Int32} {c_cost : Nat → Int64} {c_found : Nat → Int32} {c_least : Nat → Int64} {c_seats : Nat → Int32} {c_weight : Nat → Int32} {v1 : Int32} {v2 : Int32} {v3 : Int32}, k12 c_full c_cost c_found c_least c_seats c_weight v1 v2 v3 = some res → GG mu_X8_mostFirsts κ ω A (QR κ ω A ad (some (.int res.1)) (w_X8_mostFirsts c_askers c_places res.2.1 res.2.2.1 c_firstWorth res.2.2.2.1 res.2.2.2.2.1 res.2.2.2.2.2.1 res.2.2.2.2.2.2 c_wish u_above u_below u_firsts u_freed u_whole)) ad 0 0 12 (w_X8_mostFirsts c_askers c_places c_full c_cost c_firstWorth c_found c_least c_seats c_weight c_wish u_above u_below u_firsts u_freed u_whole) [some (.ref 0), some (.int v1), some (.int v2), some (.int v3)] []) {c_full : Int32} {c_cost : Nat → Int64} {c_found : Nat → Int32} {c_least : Nat → Int64} {c_seats : Nat → Int32} {c_weight : Nat → Int32} {v1 : Int32} {v2 : Int32} {v3 : Int32} {s1 : Int32} (hf : f_X8_mostFirsts_82 N c_askers c_places c_firstWorth c_wish k12 c_full c_cost c_found c_least c_seats c_weight v1 v2 v3 s1 = some res) : GG mu_X8_mostFirsts κ ω A (QR κ ω A ad (some (.int res.1)) (w_X8_mostFirsts c_askers c_places res.2.1 res.2.2.1 c_firstWorth res.2.2.2.1 res.2.2.2.2.1 res.2.2.2.2.2.1 res.2.2.2.2.2.2 c_wish u_above u_below u_firsts u_freed u_whole)) ad 0 0 82 (w_X8_mostFirsts c_askers c_places c_full c_cost c_firstWorth c_found c_least c_seats c_weight c_wish u_above u_below u_firsts u_freed u_whole) [some (.ref 0), some (.int v1), some (.int v2), some (.int v3)] [.int s1, .ref 1] := by
  refine G_ldc2 (v := 1000000000000000000) dX8_mostFirsts_82 k_X8_130 ?_
  exact g_X8_mostFirsts_85 hk12 hf
def f_X8_mostFirsts_12 (N : Nat) (c_askers : Int32) (c_places : Int32) (c_firstWorth : Nat → Int32) (c_wish : Nat → Int32) (k2 : Int32 → (Nat → Int64) → (Nat → Int32) → (Nat → Int64) → (Nat → Int32) → (Nat → Int32) → Int32 → Int32 → Option (Int32 × Int32 × (Nat → Int64) × (Nat → Int32) × (Nat → Int64) × (Nat → Int32) × (Nat → Int32))) : Nat → Int32 → (Nat → Int64) → (Nat → Int32) → (Nat → Int64) → (Nat → Int32) → (Nat → Int32) → Int32 → Int32 → Int32 → Option (Int32 × Int32 × (Nat → Int64) × (Nat → Int32) × (Nat → Int64) × (Nat → Int32) × (Nat → Int32))
  | 0, _, _, _, _, _, _, _, _, _ => none
  | n + 1, c_full, c_cost, c_found, c_least, c_seats, c_weight, v1, v2, v3 =>
    (if c_places < v3 then
      k2 c_full c_cost c_found c_least c_seats c_weight v1 (v2 + 1)
    else
      (if v3 = 0 then
        f_X8_mostFirsts_85 N c_askers c_places c_firstWorth c_wish (f_X8_mostFirsts_12 N c_askers c_places c_firstWorth c_wish k2 n) c_full c_cost c_found c_least c_seats c_weight v1 v2 v3 ((7 * v2) + v3) 0
      else
        (rdI 48 c_wish (((6 * v2) + v3) - 1)).bind fun t3 =>
        (if t3 ≤ 0 then
          f_X8_mostFirsts_82 N c_askers c_places c_firstWorth c_wish (f_X8_mostFirsts_12 N c_askers c_places c_firstWorth c_wish k2 n) c_full c_cost c_found c_least c_seats c_weight v1 v2 v3 ((7 * v2) + v3)
        else
          (rdI 48 c_wish (((6 * v2) + v3) - 1)).bind fun t5 =>
          (rdI 8 c_firstWorth v2).bind fun t6 =>
          (if t5 = t6 then
            f_X8_mostFirsts_85 N c_askers c_places c_firstWorth c_wish (f_X8_mostFirsts_12 N c_askers c_places c_firstWorth c_wish k2 n) c_full c_cost c_found c_least c_seats c_weight v1 v2 v3 ((7 * v2) + v3) (-1 : Int64)
          else
            f_X8_mostFirsts_82 N c_askers c_places c_firstWorth c_wish (f_X8_mostFirsts_12 N c_askers c_places c_firstWorth c_wish k2 n) c_full c_cost c_found c_least c_seats c_weight v1 v2 v3 ((7 * v2) + v3)))))
set_option maxHeartbeats 4000000 in
set_option maxRecDepth 100000 in
theorem g_X8_mostFirsts_12 {κ : KC} {ω : KW} {A : Nat → Prop} {ad : Nat → Nat} {u_above : Int64} {u_below : Int64} {u_firsts : Int32} {u_freed : Int32} {u_whole : Int64} {N : Nat} {c_askers : Int32} {c_places : Int32} {c_firstWorth : Nat → Int32} {c_wish : Nat → Int32}  {k2 : Int32 → (Nat → Int64) → (Nat → Int32) → (Nat → Int64) → (Nat → Int32) → (Nat → Int32) → Int32 → Int32 → Option (Int32 × Int32 × (Nat → Int64) × (Nat → Int32) × (Nat → Int64) × (Nat → Int32) × (Nat → Int32))} {res : Int32 × Int32 × (Nat → Int64) × (Nat → Int32) × (Nat → Int64) × (Nat → Int32) × (Nat → Int32)} (hk2 : ∀ {c_full : Int32} {c_cost : Nat → Int64} {c_found : Nat → Int32} {c_least : Nat → Int64} {c_seats : Nat → Int32} {c_weight : Nat → Int32} {v1 : Int32} {v2 : Int32}, k2 c_full c_cost c_found c_least c_seats c_weight v1 v2 = some res → GG mu_X8_mostFirsts κ ω A (QR κ ω A ad (some (.int res.1)) (w_X8_mostFirsts c_askers c_places res.2.1 res.2.2.1 c_firstWorth res.2.2.2.1 res.2.2.2.2.1 res.2.2.2.2.2.1 res.2.2.2.2.2.2 c_wish u_above u_below u_firsts u_freed u_whole)) ad 0 0 2 (w_X8_mostFirsts c_askers c_places c_full c_cost c_firstWorth c_found c_least c_seats c_weight c_wish u_above u_below u_firsts u_freed u_whole) [some (.ref 0), some (.int v1), some (.int v2), none] []) : ∀ (n : Nat) {c_full : Int32} {c_cost : Nat → Int64} {c_found : Nat → Int32} {c_least : Nat → Int64} {c_seats : Nat → Int32} {c_weight : Nat → Int32} {v1 : Int32} {v2 : Int32} {v3 : Int32}, f_X8_mostFirsts_12 N c_askers c_places c_firstWorth c_wish k2 n c_full c_cost c_found c_least c_seats c_weight v1 v2 v3 = some res → GG mu_X8_mostFirsts κ ω A (QR κ ω A ad (some (.int res.1)) (w_X8_mostFirsts c_askers c_places res.2.1 res.2.2.1 c_firstWorth res.2.2.2.1 res.2.2.2.2.1 res.2.2.2.2.2.1 res.2.2.2.2.2.2 c_wish u_above u_below u_firsts u_freed u_whole)) ad 0 0 12 (w_X8_mostFirsts c_askers c_places c_full c_cost c_firstWorth c_found c_least c_seats c_weight c_wish u_above u_below u_firsts u_freed u_whole) [some (.ref 0), some (.int v1), some (.int v2), some (.int v3)] [] := by
  intro n
  induction n with
  | zero => intro c_full c_cost c_found c_least c_seats c_weight v1 v2 v3 hf; exact ob_0 hf
  | succ n ih =>
    intro c_full c_cost c_found c_least c_seats c_weight v1 v2 v3 hf
    refine G_iload_n dX8_mostFirsts_12 rfl rfl ?_
    refine G_aload_n dX8_mostFirsts_13 rfl rfl ?_
    refine G_get (v := .int c_places) F_X8_97 dX8_mostFirsts_14 rfl rfl ?_
    refine G_icmp_gt 92 dX8_mostFirsts_17 (by decide) (fun h1 => ?_) (fun h1 => ?_)
    · replace hf := ob_t h1 hf
      refine G_iinc 1 dX8_mostFirsts_92 (by decide) rfl (ltb rfl) ?_
      change GG _ _ _ _ _ _ _ _ _ _ [some (.ref 0), some (.int v1), some (.int (v2 + 1)), some (.int v3)] _
      refine G_goto 2 dX8_mostFirsts_95 (by decide) ?_
      refine GG.sb (lv2 := [some (.ref 0), some (.int v1), some (.int (v2 + 1)), none]) ?_ (lvS_v rfl (lvS_v rfl (lvS_v rfl (lvS_n (lvS_e)))))
      exact hk2 hf
    · replace hf := ob_f h1 hf
      refine G_aload_n dX8_mostFirsts_20 rfl rfl ?_
      refine G_get (v := .ref 1) F_X8_30 dX8_mostFirsts_21 rfl rfl ?_
      refine G_bipush 7 dX8_mostFirsts_24 (by decide) ?_
      refine G_iload_n dX8_mostFirsts_26 rfl rfl ?_
      refine G_imul dX8_mostFirsts_27 ?_
      refine G_iload_n dX8_mostFirsts_28 rfl rfl ?_
      refine G_iadd dX8_mostFirsts_29 ?_
      refine G_iload_n dX8_mostFirsts_30 rfl rfl ?_
      refine G_if_ne 38 dX8_mostFirsts_31 (by decide) (fun h2 => ?_) (fun h2 => ?_)
      · replace hf := ob_f h2 hf
        refine G_aload_n dX8_mostFirsts_38 rfl rfl ?_
        refine G_get (v := .ref 7) F_X8_13 dX8_mostFirsts_39 rfl rfl ?_
        refine G_bipush 6 dX8_mostFirsts_42 (by decide) ?_
        refine G_iload_n dX8_mostFirsts_44 rfl rfl ?_
        refine G_imul dX8_mostFirsts_45 ?_
        refine G_iload_n dX8_mostFirsts_46 rfl rfl ?_
        refine G_iadd dX8_mostFirsts_47 ?_
        refine G_iconst 1 dX8_mostFirsts_48 (by decide) ?_
        refine G_isub dX8_mostFirsts_49 ?_
        obtain ⟨t3, ht3, hf⟩ := ob hf
        refine G_iald dX8_mostFirsts_50 rfl ht3 ?_
        refine G_if_le 82 dX8_mostFirsts_51 (by decide) (fun h4 => ?_) (fun h4 => ?_)
        · replace hf := ob_t h4 hf
          exact g_X8_mostFirsts_82 ih hf
        · replace hf := ob_f h4 hf
          refine G_aload_n dX8_mostFirsts_54 rfl rfl ?_
          refine G_get (v := .ref 7) F_X8_13 dX8_mostFirsts_55 rfl rfl ?_
          refine G_bipush 6 dX8_mostFirsts_58 (by decide) ?_
          refine G_iload_n dX8_mostFirsts_60 rfl rfl ?_
          refine G_imul dX8_mostFirsts_61 ?_
          refine G_iload_n dX8_mostFirsts_62 rfl rfl ?_
          refine G_iadd dX8_mostFirsts_63 ?_
          refine G_iconst 1 dX8_mostFirsts_64 (by decide) ?_
          refine G_isub dX8_mostFirsts_65 ?_
          obtain ⟨t5, ht5, hf⟩ := ob hf
          refine G_iald dX8_mostFirsts_66 rfl ht5 ?_
          refine G_aload_n dX8_mostFirsts_67 rfl rfl ?_
          refine G_get (v := .ref 2) F_X8_42 dX8_mostFirsts_68 rfl rfl ?_
          refine G_iload_n dX8_mostFirsts_71 rfl rfl ?_
          obtain ⟨t6, ht6, hf⟩ := ob hf
          refine G_iald dX8_mostFirsts_72 rfl ht6 ?_
          refine G_icmp_ne 82 dX8_mostFirsts_73 (by decide) (fun h7 => ?_) (fun h7 => ?_)
          · replace hf := ob_f h7 hf
            exact g_X8_mostFirsts_82 ih hf
          · replace hf := ob_t h7 hf
            refine G_ldc2 (v := (-1 : Int64)) dX8_mostFirsts_76 k_X8_148 ?_
            refine G_goto 85 dX8_mostFirsts_79 (by decide) ?_
            exact g_X8_mostFirsts_85 ih hf
      · replace hf := ob_t h2 hf
        refine G_lconst 0 dX8_mostFirsts_34 (by decide) ?_
        refine G_goto 85 dX8_mostFirsts_35 (by decide) ?_
        exact g_X8_mostFirsts_85 ih hf
def f_X8_mostFirsts_2 (N : Nat) (c_askers : Int32) (c_places : Int32) (c_firstWorth : Nat → Int32) (c_wish : Nat → Int32) : Nat → Int32 → (Nat → Int64) → (Nat → Int32) → (Nat → Int64) → (Nat → Int32) → (Nat → Int32) → Int32 → Int32 → Option (Int32 × Int32 × (Nat → Int64) × (Nat → Int32) × (Nat → Int64) × (Nat → Int32) × (Nat → Int32))
  | 0, _, _, _, _, _, _, _, _ => none
  | n + 1, c_full, c_cost, c_found, c_least, c_seats, c_weight, v1, v2 =>
    (if c_askers ≤ v2 then
      (if v1 = (-1 : Int32) then
        f_X8_mostFirsts_122 N c_askers c_places c_firstWorth c_wish c_full c_cost c_found c_least c_seats c_weight v1 0
      else
        (rdI 6 c_seats v1).bind fun t3 =>
        (rdI 6 c_seats v1).bind fun t4 =>
        (wrI 6 c_seats v1 (t4 - 1)).bind fun t5 =>
        f_X8_mostFirsts_122 N c_askers c_places c_firstWorth c_wish c_full c_cost c_found c_least t5 c_weight v1 t3)
    else
      f_X8_mostFirsts_12 N c_askers c_places c_firstWorth c_wish (f_X8_mostFirsts_2 N c_askers c_places c_firstWorth c_wish n) N c_full c_cost c_found c_least c_seats c_weight v1 v2 0)
set_option maxHeartbeats 4000000 in
set_option maxRecDepth 100000 in
theorem g_X8_mostFirsts_2 {κ : KC} {ω : KW} {A : Nat → Prop} {ad : Nat → Nat} {u_above : Int64} {u_below : Int64} {u_firsts : Int32} {u_freed : Int32} {u_whole : Int64} {N : Nat} {c_askers : Int32} {c_places : Int32} {c_firstWorth : Nat → Int32} {c_wish : Nat → Int32}  {res : Int32 × Int32 × (Nat → Int64) × (Nat → Int32) × (Nat → Int64) × (Nat → Int32) × (Nat → Int32)} : ∀ (n : Nat) {c_full : Int32} {c_cost : Nat → Int64} {c_found : Nat → Int32} {c_least : Nat → Int64} {c_seats : Nat → Int32} {c_weight : Nat → Int32} {v1 : Int32} {v2 : Int32}, f_X8_mostFirsts_2 N c_askers c_places c_firstWorth c_wish n c_full c_cost c_found c_least c_seats c_weight v1 v2 = some res → GG mu_X8_mostFirsts κ ω A (QR κ ω A ad (some (.int res.1)) (w_X8_mostFirsts c_askers c_places res.2.1 res.2.2.1 c_firstWorth res.2.2.2.1 res.2.2.2.2.1 res.2.2.2.2.2.1 res.2.2.2.2.2.2 c_wish u_above u_below u_firsts u_freed u_whole)) ad 0 0 2 (w_X8_mostFirsts c_askers c_places c_full c_cost c_firstWorth c_found c_least c_seats c_weight c_wish u_above u_below u_firsts u_freed u_whole) [some (.ref 0), some (.int v1), some (.int v2), none] [] := by
  intro n
  induction n with
  | zero => intro c_full c_cost c_found c_least c_seats c_weight v1 v2 hf; exact ob_0 hf
  | succ n ih =>
    intro c_full c_cost c_found c_least c_seats c_weight v1 v2 hf
    refine G_iload_n dX8_mostFirsts_2 rfl rfl ?_
    refine G_aload_n dX8_mostFirsts_3 rfl rfl ?_
    refine G_get (v := .int c_askers) F_X8_89 dX8_mostFirsts_4 rfl rfl ?_
    refine G_icmp_ge 98 dX8_mostFirsts_7 (by decide) (fun h1 => ?_) (fun h1 => ?_)
    · replace hf := ob_t h1 hf
      refine G_iconst 0 dX8_mostFirsts_98 (by decide) ?_
      refine G_istore_n dX8_mostFirsts_99 rfl (ltb rfl) ?_
      change GG _ _ _ _ _ _ _ _ _ _ [some (.ref 0), some (.int v1), some (.int 0), none] _
      refine G_iload_n dX8_mostFirsts_100 rfl rfl ?_
      refine G_iconst (-1 : Int32) dX8_mostFirsts_101 (by decide) ?_
      refine G_icmp_eq 122 dX8_mostFirsts_102 (by decide) (fun h2 => ?_) (fun h2 => ?_)
      · replace hf := ob_t h2 hf
        exact g_X8_mostFirsts_122 hf
      · replace hf := ob_f h2 hf
        refine G_aload_n dX8_mostFirsts_105 rfl rfl ?_
        refine G_get (v := .ref 5) F_X8_7 dX8_mostFirsts_106 rfl rfl ?_
        refine G_iload_n dX8_mostFirsts_109 rfl rfl ?_
        obtain ⟨t3, ht3, hf⟩ := ob hf
        refine G_iald dX8_mostFirsts_110 rfl ht3 ?_
        refine G_istore_n dX8_mostFirsts_111 rfl (ltb rfl) ?_
        change GG _ _ _ _ _ _ _ _ _ _ [some (.ref 0), some (.int v1), some (.int t3), none] _
        refine G_aload_n dX8_mostFirsts_112 rfl rfl ?_
        refine G_get (v := .ref 5) F_X8_7 dX8_mostFirsts_113 rfl rfl ?_
        refine G_iload_n dX8_mostFirsts_116 rfl rfl ?_
        refine G_dup2 dX8_mostFirsts_117 rfl rfl ?_
        obtain ⟨t4, ht4, hf⟩ := ob hf
        refine G_iald dX8_mostFirsts_118 rfl ht4 ?_
        refine G_iconst 1 dX8_mostFirsts_119 (by decide) ?_
        refine G_isub dX8_mostFirsts_120 ?_
        obtain ⟨t5, ht5, hf⟩ := ob hf
        refine G_iast (w2 := (w_X8_mostFirsts c_askers c_places c_full c_cost c_firstWorth c_found c_least t5 c_weight c_wish u_above u_below u_firsts u_freed u_whole)) dX8_mostFirsts_121 rfl ht5 rfl ?_
        exact g_X8_mostFirsts_122 hf
    · replace hf := ob_f h1 hf
      refine G_iconst 0 dX8_mostFirsts_10 (by decide) ?_
      refine G_istore_n dX8_mostFirsts_11 rfl (ltb rfl) ?_
      change GG _ _ _ _ _ _ _ _ _ _ [some (.ref 0), some (.int v1), some (.int v2), some (.int 0)] _
      exact g_X8_mostFirsts_12 ih N hf
def f_X8_mostFirsts (N : Nat) (c_askers : Int32) (c_places : Int32) (c_firstWorth : Nat → Int32) (c_wish : Nat → Int32) (c_full : Int32) (c_cost : Nat → Int64) (c_found : Nat → Int32) (c_least : Nat → Int64) (c_seats : Nat → Int32) (c_weight : Nat → Int32) (a1 : Int32) : Option (Int32 × Int32 × (Nat → Int64) × (Nat → Int32) × (Nat → Int64) × (Nat → Int32) × (Nat → Int32)) :=
  f_X8_mostFirsts_2 N c_askers c_places c_firstWorth c_wish N c_full c_cost c_found c_least c_seats c_weight a1 0
set_option maxHeartbeats 4000000 in
set_option maxRecDepth 100000 in
theorem c_X8_mostFirsts {N : Nat} {c_askers : Int32} {c_places : Int32} {c_firstWorth : Nat → Int32} {c_wish : Nat → Int32} {c_full : Int32} {c_cost : Nat → Int64} {c_found : Nat → Int32} {c_least : Nat → Int64} {c_seats : Nat → Int32} {c_weight : Nat → Int32} {u_above : Int64} {u_below : Int64} {u_firsts : Int32} {u_freed : Int32} {u_whole : Int64} {a1 : Int32} {res : Int32 × Int32 × (Nat → Int64) × (Nat → Int32) × (Nat → Int64) × (Nat → Int32) × (Nat → Int32)} (hf : f_X8_mostFirsts N c_askers c_places c_firstWorth c_wish c_full c_cost c_found c_least c_seats c_weight a1 = some res) : Con mu_X8_mostFirsts [.ref 0, .int a1] (w_X8_mostFirsts c_askers c_places c_full c_cost c_firstWorth c_found c_least c_seats c_weight c_wish u_above u_below u_firsts u_freed u_whole) (some (.int res.1)) (w_X8_mostFirsts c_askers c_places res.2.1 res.2.2.1 c_firstWorth res.2.2.2.1 res.2.2.2.2.1 res.2.2.2.2.2.1 res.2.2.2.2.2.2 c_wish u_above u_below u_firsts u_freed u_whole) := by
  refine Con.mk (show plainName RX8 = true by decide +kernel) (leb rfl) (fun κ ω A ad => ?_)
  change GG mu_X8_mostFirsts κ ω A (QR κ ω A ad (some (.int res.1)) (w_X8_mostFirsts c_askers c_places res.2.1 res.2.2.1 c_firstWorth res.2.2.2.1 res.2.2.2.2.1 res.2.2.2.2.2.1 res.2.2.2.2.2.2 c_wish u_above u_below u_firsts u_freed u_whole)) ad 0 0 0 (w_X8_mostFirsts c_askers c_places c_full c_cost c_firstWorth c_found c_least c_seats c_weight c_wish u_above u_below u_firsts u_freed u_whole) [some (.ref 0), some (.int a1), none, none] []
  refine G_iconst 0 dX8_mostFirsts_0 (by decide) ?_
  refine G_istore_n dX8_mostFirsts_1 rfl (ltb rfl) ?_
  change GG _ _ _ _ _ _ _ _ _ _ [some (.ref 0), some (.int a1), some (.int 0), none] _
  exact g_X8_mostFirsts_2 N hf
set_option maxRecDepth 20000 in
theorem dX8_findStanding_0 : decode cX8_findStanding 0 = .ok (.iconst 0, 1) := by decide +kernel
set_option maxRecDepth 20000 in
theorem dX8_findStanding_1 : decode cX8_findStanding 1 = .ok (.istore_n 1, 1) := by decide +kernel
set_option maxRecDepth 20000 in
theorem dX8_findStanding_2 : decode cX8_findStanding 2 = .ok (.iload_n 1, 1) := by decide +kernel
set_option maxRecDepth 20000 in
theorem dX8_findStanding_3 : decode cX8_findStanding 3 = .ok (.aload_n 0, 1) := by decide +kernel
set_option maxRecDepth 20000 in
theorem dX8_findStanding_4 : decode cX8_findStanding 4 = .ok (.getfield 89, 3) := by decide +kernel
set_option maxRecDepth 20000 in
theorem dX8_findStanding_7 : decode cX8_findStanding 7 = .ok (.if_icmp .ge 68, 3) := by decide +kernel
set_option maxRecDepth 20000 in
theorem dX8_findStanding_10 : decode cX8_findStanding 10 = .ok (.aload_n 0, 1) := by decide +kernel
set_option maxRecDepth 20000 in
theorem dX8_findStanding_11 : decode cX8_findStanding 11 = .ok (.getfield 42, 3) := by decide +kernel
set_option maxRecDepth 20000 in
theorem dX8_findStanding_14 : decode cX8_findStanding 14 = .ok (.iload_n 1, 1) := by decide +kernel
set_option maxRecDepth 20000 in
theorem dX8_findStanding_15 : decode cX8_findStanding 15 = .ok (.bipush 7, 2) := by decide +kernel
set_option maxRecDepth 20000 in
theorem dX8_findStanding_17 : decode cX8_findStanding 17 = .ok (.iastore, 1) := by decide +kernel
set_option maxRecDepth 20000 in
theorem dX8_findStanding_18 : decode cX8_findStanding 18 = .ok (.iconst 0, 1) := by decide +kernel
set_option maxRecDepth 20000 in
theorem dX8_findStanding_19 : decode cX8_findStanding 19 = .ok (.istore_n 2, 1) := by decide +kernel
set_option maxRecDepth 20000 in
theorem dX8_findStanding_20 : decode cX8_findStanding 20 = .ok (.iload_n 2, 1) := by decide +kernel
set_option maxRecDepth 20000 in
theorem dX8_findStanding_21 : decode cX8_findStanding 21 = .ok (.aload_n 0, 1) := by decide +kernel
set_option maxRecDepth 20000 in
theorem dX8_findStanding_22 : decode cX8_findStanding 22 = .ok (.getfield 97, 3) := by decide +kernel
set_option maxRecDepth 20000 in
theorem dX8_findStanding_25 : decode cX8_findStanding 25 = .ok (.if_icmp .ge 44, 3) := by decide +kernel
set_option maxRecDepth 20000 in
theorem dX8_findStanding_28 : decode cX8_findStanding 28 = .ok (.aload_n 0, 1) := by decide +kernel
set_option maxRecDepth 20000 in
theorem dX8_findStanding_29 : decode cX8_findStanding 29 = .ok (.iload_n 1, 1) := by decide +kernel
set_option maxRecDepth 20000 in
theorem dX8_findStanding_30 : decode cX8_findStanding 30 = .ok (.iload_n 2, 1) := by decide +kernel
set_option maxRecDepth 20000 in
theorem dX8_findStanding_31 : decode cX8_findStanding 31 = .ok (.iconst 1, 1) := by decide +kernel
set_option maxRecDepth 20000 in
theorem dX8_findStanding_32 : decode cX8_findStanding 32 = .ok (.iadd, 1) := by decide +kernel
set_option maxRecDepth 20000 in
theorem dX8_findStanding_33 : decode cX8_findStanding 33 = .ok (.invokevirtual 111, 3) := by decide +kernel
set_option maxRecDepth 20000 in
theorem dX8_findStanding_36 : decode cX8_findStanding 36 = .ok (.istore_n 3, 1) := by decide +kernel
set_option maxRecDepth 20000 in
theorem dX8_findStanding_37 : decode cX8_findStanding 37 = .ok (.aload_n 0, 1) := by decide +kernel
set_option maxRecDepth 20000 in
theorem dX8_findStanding_38 : decode cX8_findStanding 38 = .ok (.getfield 42, 3) := by decide +kernel
set_option maxRecDepth 20000 in
theorem dX8_findStanding_41 : decode cX8_findStanding 41 = .ok (.iload_n 1, 1) := by decide +kernel
set_option maxRecDepth 20000 in
theorem dX8_findStanding_42 : decode cX8_findStanding 42 = .ok (.iload_n 3, 1) := by decide +kernel
set_option maxRecDepth 20000 in
theorem dX8_findStanding_43 : decode cX8_findStanding 43 = .ok (.aload_n 0, 1) := by decide +kernel
set_option maxRecDepth 20000 in
theorem dX8_findStanding_44 : decode cX8_findStanding 44 = .ok (.getfield 42, 3) := by decide +kernel
set_option maxRecDepth 20000 in
theorem dX8_findStanding_47 : decode cX8_findStanding 47 = .ok (.iload_n 1, 1) := by decide +kernel
set_option maxRecDepth 20000 in
theorem dX8_findStanding_48 : decode cX8_findStanding 48 = .ok (.iaload, 1) := by decide +kernel
set_option maxRecDepth 20000 in
theorem dX8_findStanding_49 : decode cX8_findStanding 49 = .ok (.if_icmp .ge 7, 3) := by decide +kernel
set_option maxRecDepth 20000 in
theorem dX8_findStanding_52 : decode cX8_findStanding 52 = .ok (.iload_n 3, 1) := by decide +kernel
set_option maxRecDepth 20000 in
theorem dX8_findStanding_53 : decode cX8_findStanding 53 = .ok (.goto 9, 3) := by decide +kernel
set_option maxRecDepth 20000 in
theorem dX8_findStanding_56 : decode cX8_findStanding 56 = .ok (.aload_n 0, 1) := by decide +kernel
set_option maxRecDepth 20000 in
theorem dX8_findStanding_57 : decode cX8_findStanding 57 = .ok (.getfield 42, 3) := by decide +kernel
set_option maxRecDepth 20000 in
theorem dX8_findStanding_60 : decode cX8_findStanding 60 = .ok (.iload_n 1, 1) := by decide +kernel
set_option maxRecDepth 20000 in
theorem dX8_findStanding_61 : decode cX8_findStanding 61 = .ok (.iaload, 1) := by decide +kernel
set_option maxRecDepth 20000 in
theorem dX8_findStanding_62 : decode cX8_findStanding 62 = .ok (.iastore, 1) := by decide +kernel
set_option maxRecDepth 20000 in
theorem dX8_findStanding_63 : decode cX8_findStanding 63 = .ok (.iinc 2 1, 3) := by decide +kernel
set_option maxRecDepth 20000 in
theorem dX8_findStanding_66 : decode cX8_findStanding 66 = .ok (.goto (-46), 3) := by decide +kernel
set_option maxRecDepth 20000 in
theorem dX8_findStanding_69 : decode cX8_findStanding 69 = .ok (.iinc 1 1, 3) := by decide +kernel
set_option maxRecDepth 20000 in
theorem dX8_findStanding_72 : decode cX8_findStanding 72 = .ok (.goto (-70), 3) := by decide +kernel
set_option maxRecDepth 20000 in
theorem dX8_findStanding_75 : decode cX8_findStanding 75 = .ok (.aload_n 0, 1) := by decide +kernel
set_option maxRecDepth 20000 in
theorem dX8_findStanding_76 : decode cX8_findStanding 76 = .ok (.aload_n 0, 1) := by decide +kernel
set_option maxRecDepth 20000 in
theorem dX8_findStanding_77 : decode cX8_findStanding 77 = .ok (.iconst (-1), 1) := by decide +kernel
set_option maxRecDepth 20000 in
theorem dX8_findStanding_78 : decode cX8_findStanding 78 = .ok (.invokevirtual 170, 3) := by decide +kernel
set_option maxRecDepth 20000 in
theorem dX8_findStanding_81 : decode cX8_findStanding 81 = .ok (.putfield 174, 3) := by decide +kernel
set_option maxRecDepth 20000 in
theorem dX8_findStanding_84 : decode cX8_findStanding 84 = .ok (.aload_n 0, 1) := by decide +kernel
set_option maxRecDepth 20000 in
theorem dX8_findStanding_85 : decode cX8_findStanding 85 = .ok (.iconst 0, 1) := by decide +kernel
set_option maxRecDepth 20000 in
theorem dX8_findStanding_86 : decode cX8_findStanding 86 = .ok (.putfield 177, 3) := by decide +kernel
set_option maxRecDepth 20000 in
theorem dX8_findStanding_89 : decode cX8_findStanding 89 = .ok (.iconst 0, 1) := by decide +kernel
set_option maxRecDepth 20000 in
theorem dX8_findStanding_90 : decode cX8_findStanding 90 = .ok (.istore_n 1, 1) := by decide +kernel
set_option maxRecDepth 20000 in
theorem dX8_findStanding_91 : decode cX8_findStanding 91 = .ok (.iload_n 1, 1) := by decide +kernel
set_option maxRecDepth 20000 in
theorem dX8_findStanding_92 : decode cX8_findStanding 92 = .ok (.aload_n 0, 1) := by decide +kernel
set_option maxRecDepth 20000 in
theorem dX8_findStanding_93 : decode cX8_findStanding 93 = .ok (.getfield 97, 3) := by decide +kernel
set_option maxRecDepth 20000 in
theorem dX8_findStanding_96 : decode cX8_findStanding 96 = .ok (.if_icmp .ge 37, 3) := by decide +kernel
set_option maxRecDepth 20000 in
theorem dX8_findStanding_99 : decode cX8_findStanding 99 = .ok (.aload_n 0, 1) := by decide +kernel
set_option maxRecDepth 20000 in
theorem dX8_findStanding_100 : decode cX8_findStanding 100 = .ok (.dup, 1) := by decide +kernel
set_option maxRecDepth 20000 in
theorem dX8_findStanding_101 : decode cX8_findStanding 101 = .ok (.getfield 177, 3) := by decide +kernel
set_option maxRecDepth 20000 in
theorem dX8_findStanding_104 : decode cX8_findStanding 104 = .ok (.aload_n 0, 1) := by decide +kernel
set_option maxRecDepth 20000 in
theorem dX8_findStanding_105 : decode cX8_findStanding 105 = .ok (.iload_n 1, 1) := by decide +kernel
set_option maxRecDepth 20000 in
theorem dX8_findStanding_106 : decode cX8_findStanding 106 = .ok (.invokevirtual 170, 3) := by decide +kernel
set_option maxRecDepth 20000 in
theorem dX8_findStanding_109 : decode cX8_findStanding 109 = .ok (.aload_n 0, 1) := by decide +kernel
set_option maxRecDepth 20000 in
theorem dX8_findStanding_110 : decode cX8_findStanding 110 = .ok (.getfield 174, 3) := by decide +kernel
set_option maxRecDepth 20000 in
theorem dX8_findStanding_113 : decode cX8_findStanding 113 = .ok (.if_icmp .ne 9, 3) := by decide +kernel
set_option maxRecDepth 20000 in
theorem dX8_findStanding_116 : decode cX8_findStanding 116 = .ok (.iconst 1, 1) := by decide +kernel
set_option maxRecDepth 20000 in
theorem dX8_findStanding_117 : decode cX8_findStanding 117 = .ok (.iload_n 1, 1) := by decide +kernel
set_option maxRecDepth 20000 in
theorem dX8_findStanding_118 : decode cX8_findStanding 118 = .ok (.ishl, 1) := by decide +kernel
set_option maxRecDepth 20000 in
theorem dX8_findStanding_119 : decode cX8_findStanding 119 = .ok (.goto 4, 3) := by decide +kernel
set_option maxRecDepth 20000 in
theorem dX8_findStanding_122 : decode cX8_findStanding 122 = .ok (.iconst 0, 1) := by decide +kernel
set_option maxRecDepth 20000 in
theorem dX8_findStanding_123 : decode cX8_findStanding 123 = .ok (.ior, 1) := by decide +kernel
set_option maxRecDepth 20000 in
theorem dX8_findStanding_124 : decode cX8_findStanding 124 = .ok (.putfield 177, 3) := by decide +kernel
set_option maxRecDepth 20000 in
theorem dX8_findStanding_127 : decode cX8_findStanding 127 = .ok (.iinc 1 1, 3) := by decide +kernel
set_option maxRecDepth 20000 in
theorem dX8_findStanding_130 : decode cX8_findStanding 130 = .ok (.goto (-39), 3) := by decide +kernel
set_option maxRecDepth 20000 in
theorem dX8_findStanding_133 : decode cX8_findStanding 133 = .ok (.iconst 0, 1) := by decide +kernel
set_option maxRecDepth 20000 in
theorem dX8_findStanding_134 : decode cX8_findStanding 134 = .ok (.istore_n 1, 1) := by decide +kernel
set_option maxRecDepth 20000 in
theorem dX8_findStanding_135 : decode cX8_findStanding 135 = .ok (.iload_n 1, 1) := by decide +kernel
set_option maxRecDepth 20000 in
theorem dX8_findStanding_136 : decode cX8_findStanding 136 = .ok (.aload_n 0, 1) := by decide +kernel
set_option maxRecDepth 20000 in
theorem dX8_findStanding_137 : decode cX8_findStanding 137 = .ok (.getfield 89, 3) := by decide +kernel
set_option maxRecDepth 20000 in
theorem dX8_findStanding_140 : decode cX8_findStanding 140 = .ok (.if_icmp .ge 85, 3) := by decide +kernel
set_option maxRecDepth 20000 in
theorem dX8_findStanding_143 : decode cX8_findStanding 143 = .ok (.aload_n 0, 1) := by decide +kernel
set_option maxRecDepth 20000 in
theorem dX8_findStanding_144 : decode cX8_findStanding 144 = .ok (.getfield 45, 3) := by decide +kernel
set_option maxRecDepth 20000 in
theorem dX8_findStanding_147 : decode cX8_findStanding 147 = .ok (.iload_n 1, 1) := by decide +kernel
set_option maxRecDepth 20000 in
theorem dX8_findStanding_148 : decode cX8_findStanding 148 = .ok (.bipush 7, 2) := by decide +kernel
set_option maxRecDepth 20000 in
theorem dX8_findStanding_150 : decode cX8_findStanding 150 = .ok (.iastore, 1) := by decide +kernel
set_option maxRecDepth 20000 in
theorem dX8_findStanding_151 : decode cX8_findStanding 151 = .ok (.iconst 0, 1) := by decide +kernel
set_option maxRecDepth 20000 in
theorem dX8_findStanding_152 : decode cX8_findStanding 152 = .ok (.istore_n 2, 1) := by decide +kernel
set_option maxRecDepth 20000 in
theorem dX8_findStanding_153 : decode cX8_findStanding 153 = .ok (.iload_n 2, 1) := by decide +kernel
set_option maxRecDepth 20000 in
theorem dX8_findStanding_154 : decode cX8_findStanding 154 = .ok (.aload_n 0, 1) := by decide +kernel
set_option maxRecDepth 20000 in
theorem dX8_findStanding_155 : decode cX8_findStanding 155 = .ok (.getfield 97, 3) := by decide +kernel
set_option maxRecDepth 20000 in
theorem dX8_findStanding_158 : decode cX8_findStanding 158 = .ok (.if_icmp .ge 61, 3) := by decide +kernel
set_option maxRecDepth 20000 in
theorem dX8_findStanding_161 : decode cX8_findStanding 161 = .ok (.aload_n 0, 1) := by decide +kernel
set_option maxRecDepth 20000 in
theorem dX8_findStanding_162 : decode cX8_findStanding 162 = .ok (.getfield 177, 3) := by decide +kernel
set_option maxRecDepth 20000 in
theorem dX8_findStanding_165 : decode cX8_findStanding 165 = .ok (.iload_n 2, 1) := by decide +kernel
set_option maxRecDepth 20000 in
theorem dX8_findStanding_166 : decode cX8_findStanding 166 = .ok (.ishr, 1) := by decide +kernel
set_option maxRecDepth 20000 in
theorem dX8_findStanding_167 : decode cX8_findStanding 167 = .ok (.iconst 1, 1) := by decide +kernel
set_option maxRecDepth 20000 in
theorem dX8_findStanding_168 : decode cX8_findStanding 168 = .ok (.iand, 1) := by decide +kernel
set_option maxRecDepth 20000 in
theorem dX8_findStanding_169 : decode cX8_findStanding 169 = .ok (.iconst 1, 1) := by decide +kernel
set_option maxRecDepth 20000 in
theorem dX8_findStanding_170 : decode cX8_findStanding 170 = .ok (.if_icmp .ne 14, 3) := by decide +kernel
set_option maxRecDepth 20000 in
theorem dX8_findStanding_173 : decode cX8_findStanding 173 = .ok (.aload_n 0, 1) := by decide +kernel
set_option maxRecDepth 20000 in
theorem dX8_findStanding_174 : decode cX8_findStanding 174 = .ok (.iload_n 1, 1) := by decide +kernel
set_option maxRecDepth 20000 in
theorem dX8_findStanding_175 : decode cX8_findStanding 175 = .ok (.iload_n 2, 1) := by decide +kernel
set_option maxRecDepth 20000 in
theorem dX8_findStanding_176 : decode cX8_findStanding 176 = .ok (.iconst 1, 1) := by decide +kernel
set_option maxRecDepth 20000 in
theorem dX8_findStanding_177 : decode cX8_findStanding 177 = .ok (.iadd, 1) := by decide +kernel
set_option maxRecDepth 20000 in
theorem dX8_findStanding_178 : decode cX8_findStanding 178 = .ok (.invokevirtual 111, 3) := by decide +kernel
set_option maxRecDepth 20000 in
theorem dX8_findStanding_181 : decode cX8_findStanding 181 = .ok (.goto 5, 3) := by decide +kernel
set_option maxRecDepth 20000 in
theorem dX8_findStanding_184 : decode cX8_findStanding 184 = .ok (.bipush 8, 2) := by decide +kernel
set_option maxRecDepth 20000 in
theorem dX8_findStanding_186 : decode cX8_findStanding 186 = .ok (.istore_n 3, 1) := by decide +kernel
set_option maxRecDepth 20000 in
theorem dX8_findStanding_187 : decode cX8_findStanding 187 = .ok (.aload_n 0, 1) := by decide +kernel
set_option maxRecDepth 20000 in
theorem dX8_findStanding_188 : decode cX8_findStanding 188 = .ok (.getfield 45, 3) := by decide +kernel
set_option maxRecDepth 20000 in
theorem dX8_findStanding_191 : decode cX8_findStanding 191 = .ok (.iload_n 1, 1) := by decide +kernel
set_option maxRecDepth 20000 in
theorem dX8_findStanding_192 : decode cX8_findStanding 192 = .ok (.iload_n 3, 1) := by decide +kernel
set_option maxRecDepth 20000 in
theorem dX8_findStanding_193 : decode cX8_findStanding 193 = .ok (.aload_n 0, 1) := by decide +kernel
set_option maxRecDepth 20000 in
theorem dX8_findStanding_194 : decode cX8_findStanding 194 = .ok (.getfield 45, 3) := by decide +kernel
set_option maxRecDepth 20000 in
theorem dX8_findStanding_197 : decode cX8_findStanding 197 = .ok (.iload_n 1, 1) := by decide +kernel
set_option maxRecDepth 20000 in
theorem dX8_findStanding_198 : decode cX8_findStanding 198 = .ok (.iaload, 1) := by decide +kernel
set_option maxRecDepth 20000 in
theorem dX8_findStanding_199 : decode cX8_findStanding 199 = .ok (.if_icmp .ge 7, 3) := by decide +kernel
set_option maxRecDepth 20000 in
theorem dX8_findStanding_202 : decode cX8_findStanding 202 = .ok (.iload_n 3, 1) := by decide +kernel
set_option maxRecDepth 20000 in
theorem dX8_findStanding_203 : decode cX8_findStanding 203 = .ok (.goto 9, 3) := by decide +kernel
set_option maxRecDepth 20000 in
theorem dX8_findStanding_206 : decode cX8_findStanding 206 = .ok (.aload_n 0, 1) := by decide +kernel
set_option maxRecDepth 20000 in
theorem dX8_findStanding_207 : decode cX8_findStanding 207 = .ok (.getfield 45, 3) := by decide +kernel
set_option maxRecDepth 20000 in
theorem dX8_findStanding_210 : decode cX8_findStanding 210 = .ok (.iload_n 1, 1) := by decide +kernel
set_option maxRecDepth 20000 in
theorem dX8_findStanding_211 : decode cX8_findStanding 211 = .ok (.iaload, 1) := by decide +kernel
set_option maxRecDepth 20000 in
theorem dX8_findStanding_212 : decode cX8_findStanding 212 = .ok (.iastore, 1) := by decide +kernel
set_option maxRecDepth 20000 in
theorem dX8_findStanding_213 : decode cX8_findStanding 213 = .ok (.iinc 2 1, 3) := by decide +kernel
set_option maxRecDepth 20000 in
theorem dX8_findStanding_216 : decode cX8_findStanding 216 = .ok (.goto (-63), 3) := by decide +kernel
set_option maxRecDepth 20000 in
theorem dX8_findStanding_219 : decode cX8_findStanding 219 = .ok (.iinc 1 1, 3) := by decide +kernel
set_option maxRecDepth 20000 in
theorem dX8_findStanding_222 : decode cX8_findStanding 222 = .ok (.goto (-87), 3) := by decide +kernel
set_option maxRecDepth 20000 in
theorem dX8_findStanding_225 : decode cX8_findStanding 225 = .ok (.return_, 1) := by decide +kernel
def f_X8_findStanding_212 (N : Nat) (c_askers : Int32) (c_places : Int32) (c_wish : Nat → Int32) (k153 : Int32 → Int32 → Int32 → (Nat → Int64) → (Nat → Int32) → (Nat → Int32) → (Nat → Int64) → (Nat → Int32) → (Nat → Int32) → (Nat → Int32) → Int32 → Int32 → Option (Int32 × Int32 × Int32 × (Nat → Int64) × (Nat → Int32) × (Nat → Int32) × (Nat → Int64) × (Nat → Int32) × (Nat → Int32) × (Nat → Int32))) (c_full : Int32) (c_firsts : Int32) (c_freed : Int32) (c_cost : Nat → Int64) (c_firstWorth : Nat → Int32) (c_found : Nat → Int32) (c_least : Nat → Int64) (c_seats : Nat → Int32) (c_secondWorth : Nat → Int32) (c_weight : Nat → Int32) (v1 : Int32) (v2 : Int32) (s1 : Int32) (s2 : Int32) : Option (Int32 × Int32 × Int32 × (Nat → Int64) × (Nat → Int32) × (Nat → Int32) × (Nat → Int64) × (Nat → Int32) × (Nat → Int32) × (Nat → Int32)) :=
    (wrI 8 c_secondWorth s1 s2).bind fun t1 =>
    k153 c_full c_firsts c_freed c_cost c_firstWorth c_found c_least c_seats t1 c_weight v1 (v2 + 1)
set_option maxHeartbeats 4000000 in
set_option maxRecDepth 100000 in
theorem g_X8_findStanding_212 {κ : KC} {ω : KW} {A : Nat → Prop} {ad : Nat → Nat} {u_above : Int64} {u_below : Int64} {u_whole : Int64} {N : Nat} {c_askers : Int32} {c_places : Int32} {c_wish : Nat → Int32}  {k153 : Int32 → Int32 → Int32 → (Nat → Int64) → (Nat → Int32) → (Nat → Int32) → (Nat → Int64) → (Nat → Int32) → (Nat → Int32) → (Nat → Int32) → Int32 → Int32 → Option (Int32 × Int32 × Int32 × (Nat → Int64) × (Nat → Int32) × (Nat → Int32) × (Nat → Int64) × (Nat → Int32) × (Nat → Int32) × (Nat → Int32))} {res : Int32 × Int32 × Int32 × (Nat → Int64) × (Nat → Int32) × (Nat → Int32) × (Nat → Int64) × (Nat → Int32) × (Nat → Int32) × (Nat → Int32)} (hk153 : ∀ {c_full : Int32} {c_firsts : Int32} {c_freed : Int32} {c_cost : Nat → Int64} {c_firstWorth : Nat → Int32} {c_found : Nat → Int32} {c_least : Nat → Int64} {c_seats : Nat → Int32} {c_secondWorth : Nat → Int32} {c_weight : Nat → Int32} {v1 : Int32} {v2 : Int32}, k153 c_full c_firsts c_freed c_cost c_firstWorth c_found c_least c_seats c_secondWorth c_weight v1 v2 = some res → GG mu_X8_findStanding κ ω A (QR κ ω A ad (none) (w_X8_findStanding c_askers c_places res.1 res.2.1 res.2.2.1 res.2.2.2.1 res.2.2.2.2.1 res.2.2.2.2.2.1 res.2.2.2.2.2.2.1 res.2.2.2.2.2.2.2.1 res.2.2.2.2.2.2.2.2.1 res.2.2.2.2.2.2.2.2.2 c_wish u_above u_below u_whole)) ad 0 0 153 (w_X8_findStanding c_askers c_places c_full c_firsts c_freed c_cost c_firstWorth c_found c_least c_seats c_secondWorth c_weight c_wish u_above u_below u_whole) [some (.ref 0), some (.int v1), some (.int v2), none] []) {c_full : Int32} {c_firsts : Int32} {c_freed : Int32} {c_cost : Nat → Int64} {c_firstWorth : Nat → Int32} {c_found : Nat → Int32} {c_least : Nat → Int64} {c_seats : Nat → Int32} {c_secondWorth : Nat → Int32} {c_weight : Nat → Int32} {v1 : Int32} {v2 : Int32} {s1 : Int32} {s2 : Int32} (hf : f_X8_findStanding_212 N c_askers c_places c_wish k153 c_full c_firsts c_freed c_cost c_firstWorth c_found c_least c_seats c_secondWorth c_weight v1 v2 s1 s2 = some res) : GG mu_X8_findStanding κ ω A (QR κ ω A ad (none) (w_X8_findStanding c_askers c_places res.1 res.2.1 res.2.2.1 res.2.2.2.1 res.2.2.2.2.1 res.2.2.2.2.2.1 res.2.2.2.2.2.2.1 res.2.2.2.2.2.2.2.1 res.2.2.2.2.2.2.2.2.1 res.2.2.2.2.2.2.2.2.2 c_wish u_above u_below u_whole)) ad 0 0 212 (w_X8_findStanding c_askers c_places c_full c_firsts c_freed c_cost c_firstWorth c_found c_least c_seats c_secondWorth c_weight c_wish u_above u_below u_whole) [some (.ref 0), some (.int v1), some (.int v2), none] [.int s2, .int s1, .ref 6] := by
  obtain ⟨t1, ht1, hf⟩ := ob hf
  refine G_iast (w2 := (w_X8_findStanding c_askers c_places c_full c_firsts c_freed c_cost c_firstWorth c_found c_least c_seats t1 c_weight c_wish u_above u_below u_whole)) dX8_findStanding_212 rfl ht1 rfl ?_
  refine G_iinc 1 dX8_findStanding_213 (by decide) rfl (ltb rfl) ?_
  change GG _ _ _ _ _ _ _ _ _ _ [some (.ref 0), some (.int v1), some (.int (v2 + 1)), none] _
  refine G_goto 153 dX8_findStanding_216 (by decide) ?_
  exact hk153 hf
def f_X8_findStanding_186 (N : Nat) (c_askers : Int32) (c_places : Int32) (c_wish : Nat → Int32) (k153 : Int32 → Int32 → Int32 → (Nat → Int64) → (Nat → Int32) → (Nat → Int32) → (Nat → Int64) → (Nat → Int32) → (Nat → Int32) → (Nat → Int32) → Int32 → Int32 → Option (Int32 × Int32 × Int32 × (Nat → Int64) × (Nat → Int32) × (Nat → Int32) × (Nat → Int64) × (Nat → Int32) × (Nat → Int32) × (Nat → Int32))) (c_full : Int32) (c_firsts : Int32) (c_freed : Int32) (c_cost : Nat → Int64) (c_firstWorth : Nat → Int32) (c_found : Nat → Int32) (c_least : Nat → Int64) (c_seats : Nat → Int32) (c_secondWorth : Nat → Int32) (c_weight : Nat → Int32) (v1 : Int32) (v2 : Int32) (s0 : Int32) : Option (Int32 × Int32 × Int32 × (Nat → Int64) × (Nat → Int32) × (Nat → Int32) × (Nat → Int64) × (Nat → Int32) × (Nat → Int32) × (Nat → Int32)) :=
    (rdI 8 c_secondWorth v1).bind fun t1 =>
    (if t1 ≤ s0 then
      (rdI 8 c_secondWorth v1).bind fun t3 =>
      f_X8_findStanding_212 N c_askers c_places c_wish k153 c_full c_firsts c_freed c_cost c_firstWorth c_found c_least c_seats c_secondWorth c_weight v1 v2 v1 t3
    else
      f_X8_findStanding_212 N c_askers c_places c_wish k153 c_full c_firsts c_freed c_cost c_firstWorth c_found c_least c_seats c_secondWorth c_weight v1 v2 v1 s0)
set_option maxHeartbeats 4000000 in
set_option maxRecDepth 100000 in
theorem g_X8_findStanding_186 {κ : KC} {ω : KW} {A : Nat → Prop} {ad : Nat → Nat} {u_above : Int64} {u_below : Int64} {u_whole : Int64} {N : Nat} {c_askers : Int32} {c_places : Int32} {c_wish : Nat → Int32}  {k153 : Int32 → Int32 → Int32 → (Nat → Int64) → (Nat → Int32) → (Nat → Int32) → (Nat → Int64) → (Nat → Int32) → (Nat → Int32) → (Nat → Int32) → Int32 → Int32 → Option (Int32 × Int32 × Int32 × (Nat → Int64) × (Nat → Int32) × (Nat → Int32) × (Nat → Int64) × (Nat → Int32) × (Nat → Int32) × (Nat → Int32))} {res : Int32 × Int32 × Int32 × (Nat → Int64) × (Nat → Int32) × (Nat → Int32) × (Nat → Int64) × (Nat → Int32) × (Nat → Int32) × (Nat → Int32)} (hk153 : ∀ {c_full : Int32} {c_firsts : Int32} {c_freed : Int32} {c_cost : Nat → Int64} {c_firstWorth : Nat → Int32} {c_found : Nat → Int32} {c_least : Nat → Int64} {c_seats : Nat → Int32} {c_secondWorth : Nat → Int32} {c_weight : Nat → Int32} {v1 : Int32} {v2 : Int32}, k153 c_full c_firsts c_freed c_cost c_firstWorth c_found c_least c_seats c_secondWorth c_weight v1 v2 = some res → GG mu_X8_findStanding κ ω A (QR κ ω A ad (none) (w_X8_findStanding c_askers c_places res.1 res.2.1 res.2.2.1 res.2.2.2.1 res.2.2.2.2.1 res.2.2.2.2.2.1 res.2.2.2.2.2.2.1 res.2.2.2.2.2.2.2.1 res.2.2.2.2.2.2.2.2.1 res.2.2.2.2.2.2.2.2.2 c_wish u_above u_below u_whole)) ad 0 0 153 (w_X8_findStanding c_askers c_places c_full c_firsts c_freed c_cost c_firstWorth c_found c_least c_seats c_secondWorth c_weight c_wish u_above u_below u_whole) [some (.ref 0), some (.int v1), some (.int v2), none] []) {c_full : Int32} {c_firsts : Int32} {c_freed : Int32} {c_cost : Nat → Int64} {c_firstWorth : Nat → Int32} {c_found : Nat → Int32} {c_least : Nat → Int64} {c_seats : Nat → Int32} {c_secondWorth : Nat → Int32} {c_weight : Nat → Int32} {v1 : Int32} {v2 : Int32} {s0 : Int32} (hf : f_X8_findStanding_186 N c_askers c_places c_wish k153 c_full c_firsts c_freed c_cost c_firstWorth c_found c_least c_seats c_secondWorth c_weight v1 v2 s0 = some res) : GG mu_X8_findStanding κ ω A (QR κ ω A ad (none) (w_X8_findStanding c_askers c_places res.1 res.2.1 res.2.2.1 res.2.2.2.1 res.2.2.2.2.1 res.2.2.2.2.2.1 res.2.2.2.2.2.2.1 res.2.2.2.2.2.2.2.1 res.2.2.2.2.2.2.2.2.1 res.2.2.2.2.2.2.2.2.2 c_wish u_above u_below u_whole)) ad 0 0 186 (w_X8_findStanding c_askers c_places c_full c_firsts c_freed c_cost c_firstWorth c_found c_least c_seats c_secondWorth c_weight c_wish u_above u_below u_whole) [some (.ref 0), some (.int v1), some (.int v2), none] [.int s0] := by
  refine G_istore_n dX8_findStanding_186 rfl (ltb rfl) ?_
  change GG _ _ _ _ _ _ _ _ _ _ [some (.ref 0), some (.int v1), some (.int v2), some (.int s0)] _
  refine G_aload_n dX8_findStanding_187 rfl rfl ?_
  refine G_get (v := .ref 6) F_X8_45 dX8_findStanding_188 rfl rfl ?_
  refine G_iload_n dX8_findStanding_191 rfl rfl ?_
  refine G_iload_n dX8_findStanding_192 rfl rfl ?_
  refine G_aload_n dX8_findStanding_193 rfl rfl ?_
  refine G_get (v := .ref 6) F_X8_45 dX8_findStanding_194 rfl rfl ?_
  refine G_iload_n dX8_findStanding_197 rfl rfl ?_
  obtain ⟨t1, ht1, hf⟩ := ob hf
  refine G_iald dX8_findStanding_198 rfl ht1 ?_
  refine G_icmp_ge 206 dX8_findStanding_199 (by decide) (fun h2 => ?_) (fun h2 => ?_)
  · replace hf := ob_t h2 hf
    refine G_aload_n dX8_findStanding_206 rfl rfl ?_
    refine G_get (v := .ref 6) F_X8_45 dX8_findStanding_207 rfl rfl ?_
    refine G_iload_n dX8_findStanding_210 rfl rfl ?_
    obtain ⟨t3, ht3, hf⟩ := ob hf
    refine G_iald dX8_findStanding_211 rfl ht3 ?_
    refine GG.sb (lv2 := [some (.ref 0), some (.int v1), some (.int v2), none]) ?_ (lvS_v rfl (lvS_v rfl (lvS_v rfl (lvS_n (lvS_e)))))
    exact g_X8_findStanding_212 hk153 hf
  · replace hf := ob_f h2 hf
    refine G_iload_n dX8_findStanding_202 rfl rfl ?_
    refine G_goto 212 dX8_findStanding_203 (by decide) ?_
    refine GG.sb (lv2 := [some (.ref 0), some (.int v1), some (.int v2), none]) ?_ (lvS_v rfl (lvS_v rfl (lvS_v rfl (lvS_n (lvS_e)))))
    exact g_X8_findStanding_212 hk153 hf
def f_X8_findStanding_153 (N : Nat) (c_askers : Int32) (c_places : Int32) (c_wish : Nat → Int32) (k135 : Int32 → Int32 → Int32 → (Nat → Int64) → (Nat → Int32) → (Nat → Int32) → (Nat → Int64) → (Nat → Int32) → (Nat → Int32) → (Nat → Int32) → Int32 → Option (Int32 × Int32 × Int32 × (Nat → Int64) × (Nat → Int32) × (Nat → Int32) × (Nat → Int64) × (Nat → Int32) × (Nat → Int32) × (Nat → Int32))) : Nat → Int32 → Int32 → Int32 → (Nat → Int64) → (Nat → Int32) → (Nat → Int32) → (Nat → Int64) → (Nat → Int32) → (Nat → Int32) → (Nat → Int32) → Int32 → Int32 → Option (Int32 × Int32 × Int32 × (Nat → Int64) × (Nat → Int32) × (Nat → Int32) × (Nat → Int64) × (Nat → Int32) × (Nat → Int32) × (Nat → Int32))
  | 0, _, _, _, _, _, _, _, _, _, _, _, _ => none
  | n + 1, c_full, c_firsts, c_freed, c_cost, c_firstWorth, c_found, c_least, c_seats, c_secondWorth, c_weight, v1, v2 =>
    (if c_places ≤ v2 then
      k135 c_full c_firsts c_freed c_cost c_firstWorth c_found c_least c_seats c_secondWorth c_weight (v1 + 1)
    else
      (if ((c_freed >>> (v2 &&& 31)) &&& (1 : Int32)) = 1 then
        (f_X8_worthOf N c_wish v1 (v2 + 1)).bind fun r3 =>
        f_X8_findStanding_186 N c_askers c_places c_wish (f_X8_findStanding_153 N c_askers c_places c_wish k135 n) c_full c_firsts c_freed c_cost c_firstWorth c_found c_least c_seats c_secondWorth c_weight v1 v2 r3
      else
        f_X8_findStanding_186 N c_askers c_places c_wish (f_X8_findStanding_153 N c_askers c_places c_wish k135 n) c_full c_firsts c_freed c_cost c_firstWorth c_found c_least c_seats c_secondWorth c_weight v1 v2 8))
set_option maxHeartbeats 4000000 in
set_option maxRecDepth 100000 in
theorem g_X8_findStanding_153 {κ : KC} {ω : KW} {A : Nat → Prop} {ad : Nat → Nat} {u_above : Int64} {u_below : Int64} {u_whole : Int64} {N : Nat} {c_askers : Int32} {c_places : Int32} {c_wish : Nat → Int32}  {k135 : Int32 → Int32 → Int32 → (Nat → Int64) → (Nat → Int32) → (Nat → Int32) → (Nat → Int64) → (Nat → Int32) → (Nat → Int32) → (Nat → Int32) → Int32 → Option (Int32 × Int32 × Int32 × (Nat → Int64) × (Nat → Int32) × (Nat → Int32) × (Nat → Int64) × (Nat → Int32) × (Nat → Int32) × (Nat → Int32))} {res : Int32 × Int32 × Int32 × (Nat → Int64) × (Nat → Int32) × (Nat → Int32) × (Nat → Int64) × (Nat → Int32) × (Nat → Int32) × (Nat → Int32)} (hk135 : ∀ {c_full : Int32} {c_firsts : Int32} {c_freed : Int32} {c_cost : Nat → Int64} {c_firstWorth : Nat → Int32} {c_found : Nat → Int32} {c_least : Nat → Int64} {c_seats : Nat → Int32} {c_secondWorth : Nat → Int32} {c_weight : Nat → Int32} {v1 : Int32}, k135 c_full c_firsts c_freed c_cost c_firstWorth c_found c_least c_seats c_secondWorth c_weight v1 = some res → GG mu_X8_findStanding κ ω A (QR κ ω A ad (none) (w_X8_findStanding c_askers c_places res.1 res.2.1 res.2.2.1 res.2.2.2.1 res.2.2.2.2.1 res.2.2.2.2.2.1 res.2.2.2.2.2.2.1 res.2.2.2.2.2.2.2.1 res.2.2.2.2.2.2.2.2.1 res.2.2.2.2.2.2.2.2.2 c_wish u_above u_below u_whole)) ad 0 0 135 (w_X8_findStanding c_askers c_places c_full c_firsts c_freed c_cost c_firstWorth c_found c_least c_seats c_secondWorth c_weight c_wish u_above u_below u_whole) [some (.ref 0), some (.int v1), none, none] []) : ∀ (n : Nat) {c_full : Int32} {c_firsts : Int32} {c_freed : Int32} {c_cost : Nat → Int64} {c_firstWorth : Nat → Int32} {c_found : Nat → Int32} {c_least : Nat → Int64} {c_seats : Nat → Int32} {c_secondWorth : Nat → Int32} {c_weight : Nat → Int32} {v1 : Int32} {v2 : Int32}, f_X8_findStanding_153 N c_askers c_places c_wish k135 n c_full c_firsts c_freed c_cost c_firstWorth c_found c_least c_seats c_secondWorth c_weight v1 v2 = some res → GG mu_X8_findStanding κ ω A (QR κ ω A ad (none) (w_X8_findStanding c_askers c_places res.1 res.2.1 res.2.2.1 res.2.2.2.1 res.2.2.2.2.1 res.2.2.2.2.2.1 res.2.2.2.2.2.2.1 res.2.2.2.2.2.2.2.1 res.2.2.2.2.2.2.2.2.1 res.2.2.2.2.2.2.2.2.2 c_wish u_above u_below u_whole)) ad 0 0 153 (w_X8_findStanding c_askers c_places c_full c_firsts c_freed c_cost c_firstWorth c_found c_least c_seats c_secondWorth c_weight c_wish u_above u_below u_whole) [some (.ref 0), some (.int v1), some (.int v2), none] [] := by
  intro n
  induction n with
  | zero => intro c_full c_firsts c_freed c_cost c_firstWorth c_found c_least c_seats c_secondWorth c_weight v1 v2 hf; exact ob_0 hf
  | succ n ih =>
    intro c_full c_firsts c_freed c_cost c_firstWorth c_found c_least c_seats c_secondWorth c_weight v1 v2 hf
    refine G_iload_n dX8_findStanding_153 rfl rfl ?_
    refine G_aload_n dX8_findStanding_154 rfl rfl ?_
    refine G_get (v := .int c_places) F_X8_97 dX8_findStanding_155 rfl rfl ?_
    refine G_icmp_ge 219 dX8_findStanding_158 (by decide) (fun h1 => ?_) (fun h1 => ?_)
    · replace hf := ob_t h1 hf
      refine G_iinc 1 dX8_findStanding_219 (by decide) rfl (ltb rfl) ?_
      change GG _ _ _ _ _ _ _ _ _ _ [some (.ref 0), some (.int (v1 + 1)), some (.int v2), none] _
      refine G_goto 135 dX8_findStanding_222 (by decide) ?_
      refine GG.sb (lv2 := [some (.ref 0), some (.int (v1 + 1)), none, none]) ?_ (lvS_v rfl (lvS_v rfl (lvS_n (lvS_n (lvS_e)))))
      exact hk135 hf
    · replace hf := ob_f h1 hf
      refine G_aload_n dX8_findStanding_161 rfl rfl ?_
      refine G_get (v := .int c_freed) F_X8_177 dX8_findStanding_162 rfl rfl ?_
      refine G_iload_n dX8_findStanding_165 rfl rfl ?_
      refine G_ishr dX8_findStanding_166 ?_
      refine G_iconst 1 dX8_findStanding_167 (by decide) ?_
      refine G_iand dX8_findStanding_168 ?_
      refine G_iconst 1 dX8_findStanding_169 (by decide) ?_
      refine G_icmp_ne 184 dX8_findStanding_170 (by decide) (fun h2 => ?_) (fun h2 => ?_)
      · replace hf := ob_f h2 hf
        refine G_bipush 8 dX8_findStanding_184 (by decide) ?_
        exact g_X8_findStanding_186 ih hf
      · replace hf := ob_t h2 hf
        refine G_aload_n dX8_findStanding_173 rfl rfl ?_
        refine G_iload_n dX8_findStanding_174 rfl rfl ?_
        refine G_iload_n dX8_findStanding_175 rfl rfl ?_
        refine G_iconst 1 dX8_findStanding_176 (by decide) ?_
        refine G_iadd dX8_findStanding_177 ?_
        obtain ⟨r3, hc4, hf⟩ := ob hf
        refine G_callV (μ2 := mu_X8_worthOf) (As := [.int v1, .int (v2 + 1)]) (w2 := (w_X8_findStanding c_askers c_places c_full c_firsts c_freed c_cost c_firstWorth c_found c_least c_seats c_secondWorth c_weight c_wish u_above u_below u_whole)) (wc := (w_X8_worthOf c_wish c_askers c_places u_above u_below c_full c_firsts c_freed u_whole)) (wc2 := (w_X8_worthOf c_wish c_askers c_places u_above u_below c_full c_firsts c_freed u_whole)) (rest := []) (rv := [.int r3]) [0, 8] [5, 1000, 7, 1001, 3, 1, 4, 1002, 1003, 2, 6, 1004, 1005, 1006, 1007, 1008, 1009, 1010, 1011, 1012] [1, 2, 3, 4, 5, 6, 7] [7, 0, 1, 2, 3, 4, 5, 6, 8] (c_X8_worthOf hc4) cw_X8_worthOf m_X8_111 dX8_findStanding_178 rfl ⟨leb rfl, leb rfl⟩ ⟨rfl, rfl⟩ rfl ⟨_, rfl, rfl⟩ (Fit.mk rfl rfl rfl) rfl (leb rfl) (ROsub.nil rfl rfl) rfl ?_
        change GG _ _ _ _ _ _ _ _ _ (w_X8_findStanding c_askers c_places c_full c_firsts c_freed c_cost c_firstWorth c_found c_least c_seats c_secondWorth c_weight c_wish u_above u_below u_whole) [some (.ref 0), some (.int v1), some (.int v2), none] [.int r3]
        refine G_goto 186 dX8_findStanding_181 (by decide) ?_
        exact g_X8_findStanding_186 ih hf
def f_X8_findStanding_135 (N : Nat) (c_askers : Int32) (c_places : Int32) (c_wish : Nat → Int32) : Nat → Int32 → Int32 → Int32 → (Nat → Int64) → (Nat → Int32) → (Nat → Int32) → (Nat → Int64) → (Nat → Int32) → (Nat → Int32) → (Nat → Int32) → Int32 → Option (Int32 × Int32 × Int32 × (Nat → Int64) × (Nat → Int32) × (Nat → Int32) × (Nat → Int64) × (Nat → Int32) × (Nat → Int32) × (Nat → Int32))
  | 0, _, _, _, _, _, _, _, _, _, _, _ => none
  | n + 1, c_full, c_firsts, c_freed, c_cost, c_firstWorth, c_found, c_least, c_seats, c_secondWorth, c_weight, v1 =>
    (if c_askers ≤ v1 then
      some (c_full, c_firsts, c_freed, c_cost, c_firstWorth, c_found, c_least, c_seats, c_secondWorth, c_weight)
    else
      (wrI 8 c_secondWorth v1 7).bind fun t2 =>
      f_X8_findStanding_153 N c_askers c_places c_wish (f_X8_findStanding_135 N c_askers c_places c_wish n) N c_full c_firsts c_freed c_cost c_firstWorth c_found c_least c_seats t2 c_weight v1 0)
set_option maxHeartbeats 4000000 in
set_option maxRecDepth 100000 in
theorem g_X8_findStanding_135 {κ : KC} {ω : KW} {A : Nat → Prop} {ad : Nat → Nat} {u_above : Int64} {u_below : Int64} {u_whole : Int64} {N : Nat} {c_askers : Int32} {c_places : Int32} {c_wish : Nat → Int32}  {res : Int32 × Int32 × Int32 × (Nat → Int64) × (Nat → Int32) × (Nat → Int32) × (Nat → Int64) × (Nat → Int32) × (Nat → Int32) × (Nat → Int32)} : ∀ (n : Nat) {c_full : Int32} {c_firsts : Int32} {c_freed : Int32} {c_cost : Nat → Int64} {c_firstWorth : Nat → Int32} {c_found : Nat → Int32} {c_least : Nat → Int64} {c_seats : Nat → Int32} {c_secondWorth : Nat → Int32} {c_weight : Nat → Int32} {v1 : Int32}, f_X8_findStanding_135 N c_askers c_places c_wish n c_full c_firsts c_freed c_cost c_firstWorth c_found c_least c_seats c_secondWorth c_weight v1 = some res → GG mu_X8_findStanding κ ω A (QR κ ω A ad (none) (w_X8_findStanding c_askers c_places res.1 res.2.1 res.2.2.1 res.2.2.2.1 res.2.2.2.2.1 res.2.2.2.2.2.1 res.2.2.2.2.2.2.1 res.2.2.2.2.2.2.2.1 res.2.2.2.2.2.2.2.2.1 res.2.2.2.2.2.2.2.2.2 c_wish u_above u_below u_whole)) ad 0 0 135 (w_X8_findStanding c_askers c_places c_full c_firsts c_freed c_cost c_firstWorth c_found c_least c_seats c_secondWorth c_weight c_wish u_above u_below u_whole) [some (.ref 0), some (.int v1), none, none] [] := by
  intro n
  induction n with
  | zero => intro c_full c_firsts c_freed c_cost c_firstWorth c_found c_least c_seats c_secondWorth c_weight v1 hf; exact ob_0 hf
  | succ n ih =>
    intro c_full c_firsts c_freed c_cost c_firstWorth c_found c_least c_seats c_secondWorth c_weight v1 hf
    refine G_iload_n dX8_findStanding_135 rfl rfl ?_
    refine G_aload_n dX8_findStanding_136 rfl rfl ?_
    refine G_get (v := .int c_askers) F_X8_89 dX8_findStanding_137 rfl rfl ?_
    refine G_icmp_ge 225 dX8_findStanding_140 (by decide) (fun h1 => ?_) (fun h1 => ?_)
    · replace hf := ob_t h1 hf
      obtain rfl := os hf
      exact G_return dX8_findStanding_225 rfl
    · replace hf := ob_f h1 hf
      refine G_aload_n dX8_findStanding_143 rfl rfl ?_
      refine G_get (v := .ref 6) F_X8_45 dX8_findStanding_144 rfl rfl ?_
      refine G_iload_n dX8_findStanding_147 rfl rfl ?_
      refine G_bipush 7 dX8_findStanding_148 (by decide) ?_
      obtain ⟨t2, ht2, hf⟩ := ob hf
      refine G_iast (w2 := (w_X8_findStanding c_askers c_places c_full c_firsts c_freed c_cost c_firstWorth c_found c_least c_seats t2 c_weight c_wish u_above u_below u_whole)) dX8_findStanding_150 rfl ht2 rfl ?_
      refine G_iconst 0 dX8_findStanding_151 (by decide) ?_
      refine G_istore_n dX8_findStanding_152 rfl (ltb rfl) ?_
      change GG _ _ _ _ _ _ _ _ _ _ [some (.ref 0), some (.int v1), some (.int 0), none] _
      exact g_X8_findStanding_153 ih N hf
def f_X8_findStanding_123 (N : Nat) (c_askers : Int32) (c_places : Int32) (c_wish : Nat → Int32) (k91 : Int32 → Int32 → Int32 → (Nat → Int64) → (Nat → Int32) → (Nat → Int32) → (Nat → Int64) → (Nat → Int32) → (Nat → Int32) → (Nat → Int32) → Int32 → Option (Int32 × Int32 × Int32 × (Nat → Int64) × (Nat → Int32) × (Nat → Int32) × (Nat → Int64) × (Nat → Int32) × (Nat → Int32) × (Nat → Int32))) (c_full : Int32) (c_firsts : Int32) (c_freed : Int32) (c_cost : Nat → Int64) (c_firstWorth : Nat → Int32) (c_found : Nat → Int32) (c_least : Nat → Int64) (c_seats : Nat → Int32) (c_secondWorth : Nat → Int32) (c_weight : Nat → Int32) (v1 : Int32) (s1 : Int32) (s2 : Int32) : Option (Int32 × Int32 × Int32 × (Nat → Int64) × (Nat → Int32) × (Nat → Int32) × (Nat → Int64) × (Nat → Int32) × (Nat → Int32) × (Nat → Int32)) :=
    k91 c_full c_firsts (s1 ||| s2) c_cost c_firstWorth c_found c_least c_seats c_secondWorth c_weight (v1 + 1)
set_option maxHeartbeats 4000000 in
set_option maxRecDepth 100000 in
theorem g_X8_findStanding_123 {κ : KC} {ω : KW} {A : Nat → Prop} {ad : Nat → Nat} {u_above : Int64} {u_below : Int64} {u_whole : Int64} {N : Nat} {c_askers : Int32} {c_places : Int32} {c_wish : Nat → Int32}  {k91 : Int32 → Int32 → Int32 → (Nat → Int64) → (Nat → Int32) → (Nat → Int32) → (Nat → Int64) → (Nat → Int32) → (Nat → Int32) → (Nat → Int32) → Int32 → Option (Int32 × Int32 × Int32 × (Nat → Int64) × (Nat → Int32) × (Nat → Int32) × (Nat → Int64) × (Nat → Int32) × (Nat → Int32) × (Nat → Int32))} {res : Int32 × Int32 × Int32 × (Nat → Int64) × (Nat → Int32) × (Nat → Int32) × (Nat → Int64) × (Nat → Int32) × (Nat → Int32) × (Nat → Int32)} (hk91 : ∀ {c_full : Int32} {c_firsts : Int32} {c_freed : Int32} {c_cost : Nat → Int64} {c_firstWorth : Nat → Int32} {c_found : Nat → Int32} {c_least : Nat → Int64} {c_seats : Nat → Int32} {c_secondWorth : Nat → Int32} {c_weight : Nat → Int32} {v1 : Int32}, k91 c_full c_firsts c_freed c_cost c_firstWorth c_found c_least c_seats c_secondWorth c_weight v1 = some res → GG mu_X8_findStanding κ ω A (QR κ ω A ad (none) (w_X8_findStanding c_askers c_places res.1 res.2.1 res.2.2.1 res.2.2.2.1 res.2.2.2.2.1 res.2.2.2.2.2.1 res.2.2.2.2.2.2.1 res.2.2.2.2.2.2.2.1 res.2.2.2.2.2.2.2.2.1 res.2.2.2.2.2.2.2.2.2 c_wish u_above u_below u_whole)) ad 0 0 91 (w_X8_findStanding c_askers c_places c_full c_firsts c_freed c_cost c_firstWorth c_found c_least c_seats c_secondWorth c_weight c_wish u_above u_below u_whole) [some (.ref 0), some (.int v1), none, none] []) {c_full : Int32} {c_firsts : Int32} {c_freed : Int32} {c_cost : Nat → Int64} {c_firstWorth : Nat → Int32} {c_found : Nat → Int32} {c_least : Nat → Int64} {c_seats : Nat → Int32} {c_secondWorth : Nat → Int32} {c_weight : Nat → Int32} {v1 : Int32} {s1 : Int32} {s2 : Int32} (hf : f_X8_findStanding_123 N c_askers c_places c_wish k91 c_full c_firsts c_freed c_cost c_firstWorth c_found c_least c_seats c_secondWorth c_weight v1 s1 s2 = some res) : GG mu_X8_findStanding κ ω A (QR κ ω A ad (none) (w_X8_findStanding c_askers c_places res.1 res.2.1 res.2.2.1 res.2.2.2.1 res.2.2.2.2.1 res.2.2.2.2.2.1 res.2.2.2.2.2.2.1 res.2.2.2.2.2.2.2.1 res.2.2.2.2.2.2.2.2.1 res.2.2.2.2.2.2.2.2.2 c_wish u_above u_below u_whole)) ad 0 0 123 (w_X8_findStanding c_askers c_places c_full c_firsts c_freed c_cost c_firstWorth c_found c_least c_seats c_secondWorth c_weight c_wish u_above u_below u_whole) [some (.ref 0), some (.int v1), none, none] [.int s2, .int s1, .ref 0] := by
  refine G_ior dX8_findStanding_123 ?_
  refine G_put (w2 := (w_X8_findStanding c_askers c_places c_full c_firsts (s1 ||| s2) c_cost c_firstWorth c_found c_least c_seats c_secondWorth c_weight c_wish u_above u_below u_whole)) F_X8_177 dX8_findStanding_124 rfl rfl rfl (ltb rfl) rfl ?_
  refine G_iinc 1 dX8_findStanding_127 (by decide) rfl (ltb rfl) ?_
  change GG _ _ _ _ _ _ _ _ _ _ [some (.ref 0), some (.int (v1 + 1)), none, none] _
  refine G_goto 91 dX8_findStanding_130 (by decide) ?_
  exact hk91 hf
def f_X8_findStanding_91 (N : Nat) (c_askers : Int32) (c_places : Int32) (c_wish : Nat → Int32) : Nat → Int32 → Int32 → Int32 → (Nat → Int64) → (Nat → Int32) → (Nat → Int32) → (Nat → Int64) → (Nat → Int32) → (Nat → Int32) → (Nat → Int32) → Int32 → Option (Int32 × Int32 × Int32 × (Nat → Int64) × (Nat → Int32) × (Nat → Int32) × (Nat → Int64) × (Nat → Int32) × (Nat → Int32) × (Nat → Int32))
  | 0, _, _, _, _, _, _, _, _, _, _, _ => none
  | n + 1, c_full, c_firsts, c_freed, c_cost, c_firstWorth, c_found, c_least, c_seats, c_secondWorth, c_weight, v1 =>
    (if c_places ≤ v1 then
      f_X8_findStanding_135 N c_askers c_places c_wish N c_full c_firsts c_freed c_cost c_firstWorth c_found c_least c_seats c_secondWorth c_weight 0
    else
      (f_X8_mostFirsts N c_askers c_places c_firstWorth c_wish c_full c_cost c_found c_least c_seats c_weight v1).bind fun (r2, o3, o4, o5, o6, o7, o8) =>
      (if r2 = c_firsts then
        f_X8_findStanding_123 N c_askers c_places c_wish (f_X8_findStanding_91 N c_askers c_places c_wish n) o3 c_firsts c_freed o4 c_firstWorth o5 o6 o7 c_secondWorth o8 v1 c_freed ((1 : Int32) <<< (v1 &&& 31))
      else
        f_X8_findStanding_123 N c_askers c_places c_wish (f_X8_findStanding_91 N c_askers c_places c_wish n) o3 c_firsts c_freed o4 c_firstWorth o5 o6 o7 c_secondWorth o8 v1 c_freed 0))
set_option maxHeartbeats 4000000 in
set_option maxRecDepth 100000 in
theorem g_X8_findStanding_91 {κ : KC} {ω : KW} {A : Nat → Prop} {ad : Nat → Nat} {u_above : Int64} {u_below : Int64} {u_whole : Int64} {N : Nat} {c_askers : Int32} {c_places : Int32} {c_wish : Nat → Int32}  {res : Int32 × Int32 × Int32 × (Nat → Int64) × (Nat → Int32) × (Nat → Int32) × (Nat → Int64) × (Nat → Int32) × (Nat → Int32) × (Nat → Int32)} : ∀ (n : Nat) {c_full : Int32} {c_firsts : Int32} {c_freed : Int32} {c_cost : Nat → Int64} {c_firstWorth : Nat → Int32} {c_found : Nat → Int32} {c_least : Nat → Int64} {c_seats : Nat → Int32} {c_secondWorth : Nat → Int32} {c_weight : Nat → Int32} {v1 : Int32}, f_X8_findStanding_91 N c_askers c_places c_wish n c_full c_firsts c_freed c_cost c_firstWorth c_found c_least c_seats c_secondWorth c_weight v1 = some res → GG mu_X8_findStanding κ ω A (QR κ ω A ad (none) (w_X8_findStanding c_askers c_places res.1 res.2.1 res.2.2.1 res.2.2.2.1 res.2.2.2.2.1 res.2.2.2.2.2.1 res.2.2.2.2.2.2.1 res.2.2.2.2.2.2.2.1 res.2.2.2.2.2.2.2.2.1 res.2.2.2.2.2.2.2.2.2 c_wish u_above u_below u_whole)) ad 0 0 91 (w_X8_findStanding c_askers c_places c_full c_firsts c_freed c_cost c_firstWorth c_found c_least c_seats c_secondWorth c_weight c_wish u_above u_below u_whole) [some (.ref 0), some (.int v1), none, none] [] := by
  intro n
  induction n with
  | zero => intro c_full c_firsts c_freed c_cost c_firstWorth c_found c_least c_seats c_secondWorth c_weight v1 hf; exact ob_0 hf
  | succ n ih =>
    intro c_full c_firsts c_freed c_cost c_firstWorth c_found c_least c_seats c_secondWorth c_weight v1 hf
    refine G_iload_n dX8_findStanding_91 rfl rfl ?_
    refine G_aload_n dX8_findStanding_92 rfl rfl ?_
    refine G_get (v := .int c_places) F_X8_97 dX8_findStanding_93 rfl rfl ?_
    refine G_icmp_ge 133 dX8_findStanding_96 (by decide) (fun h1 => ?_) (fun h1 => ?_)
    · replace hf := ob_t h1 hf
      refine G_iconst 0 dX8_findStanding_133 (by decide) ?_
      refine G_istore_n dX8_findStanding_134 rfl (ltb rfl) ?_
      change GG _ _ _ _ _ _ _ _ _ _ [some (.ref 0), some (.int 0), none, none] _
      exact g_X8_findStanding_135 N hf
    · replace hf := ob_f h1 hf
      refine G_aload_n dX8_findStanding_99 rfl rfl ?_
      refine G_dup dX8_findStanding_100 rfl ?_
      refine G_get (v := .int c_freed) F_X8_177 dX8_findStanding_101 rfl rfl ?_
      refine G_aload_n dX8_findStanding_104 rfl rfl ?_
      refine G_iload_n dX8_findStanding_105 rfl rfl ?_
      obtain ⟨⟨r2, o3, o4, o5, o6, o7, o8⟩, hc9, hf⟩ := ob hf
      refine G_callV (μ2 := mu_X8_mostFirsts) (As := [.int v1]) (w2 := (w_X8_findStanding c_askers c_places o3 c_firsts c_freed o4 c_firstWorth o5 o6 o7 c_secondWorth o8 c_wish u_above u_below u_whole)) (wc := (w_X8_mostFirsts c_askers c_places c_full c_cost c_firstWorth c_found c_least c_seats c_weight c_wish u_above u_below c_firsts c_freed u_whole)) (wc2 := (w_X8_mostFirsts c_askers c_places o3 o4 c_firstWorth o5 o6 o7 o8 c_wish u_above u_below c_firsts c_freed u_whole)) (rest := [.int c_freed, .ref 0]) (rv := [.int r2]) [0, 1, 2, 3, 4, 5, 7, 8] [1000, 1001, 1002, 1003, 6, 1004, 1005, 1006, 1007, 1008, 1009, 1010, 1011, 1012] [6] [1, 2, 3, 4, 5, 6, 0, 7, 8] (c_X8_mostFirsts hc9) cw_X8_mostFirsts m_X8_170 dX8_findStanding_106 rfl ⟨leb rfl, leb rfl⟩ ⟨rfl, rfl⟩ rfl ⟨_, rfl, rfl⟩ (Fit.mk rfl rfl rfl) rfl (leb rfl) (ROsub.nil rfl rfl) rfl ?_
      change GG _ _ _ _ _ _ _ _ _ (w_X8_findStanding c_askers c_places o3 c_firsts c_freed o4 c_firstWorth o5 o6 o7 c_secondWorth o8 c_wish u_above u_below u_whole) [some (.ref 0), some (.int v1), none, none] [.int r2, .int c_freed, .ref 0]
      refine G_aload_n dX8_findStanding_109 rfl rfl ?_
      refine G_get (v := .int c_firsts) F_X8_174 dX8_findStanding_110 rfl rfl ?_
      refine G_icmp_ne 122 dX8_findStanding_113 (by decide) (fun h10 => ?_) (fun h10 => ?_)
      · replace hf := ob_f h10 hf
        refine G_iconst 0 dX8_findStanding_122 (by decide) ?_
        exact g_X8_findStanding_123 ih hf
      · replace hf := ob_t h10 hf
        refine G_iconst 1 dX8_findStanding_116 (by decide) ?_
        refine G_iload_n dX8_findStanding_117 rfl rfl ?_
        refine G_ishl dX8_findStanding_118 ?_
        refine G_goto 123 dX8_findStanding_119 (by decide) ?_
        exact g_X8_findStanding_123 ih hf
def f_X8_findStanding_62 (N : Nat) (c_askers : Int32) (c_places : Int32) (c_wish : Nat → Int32) (k20 : Int32 → Int32 → Int32 → (Nat → Int64) → (Nat → Int32) → (Nat → Int32) → (Nat → Int64) → (Nat → Int32) → (Nat → Int32) → (Nat → Int32) → Int32 → Int32 → Option (Int32 × Int32 × Int32 × (Nat → Int64) × (Nat → Int32) × (Nat → Int32) × (Nat → Int64) × (Nat → Int32) × (Nat → Int32) × (Nat → Int32))) (c_full : Int32) (c_firsts : Int32) (c_freed : Int32) (c_cost : Nat → Int64) (c_firstWorth : Nat → Int32) (c_found : Nat → Int32) (c_least : Nat → Int64) (c_seats : Nat → Int32) (c_secondWorth : Nat → Int32) (c_weight : Nat → Int32) (v1 : Int32) (v2 : Int32) (s1 : Int32) (s2 : Int32) : Option (Int32 × Int32 × Int32 × (Nat → Int64) × (Nat → Int32) × (Nat → Int32) × (Nat → Int64) × (Nat → Int32) × (Nat → Int32) × (Nat → Int32)) :=
    (wrI 8 c_firstWorth s1 s2).bind fun t1 =>
    k20 c_full c_firsts c_freed c_cost t1 c_found c_least c_seats c_secondWorth c_weight v1 (v2 + 1)
set_option maxHeartbeats 4000000 in
set_option maxRecDepth 100000 in
theorem g_X8_findStanding_62 {κ : KC} {ω : KW} {A : Nat → Prop} {ad : Nat → Nat} {u_above : Int64} {u_below : Int64} {u_whole : Int64} {N : Nat} {c_askers : Int32} {c_places : Int32} {c_wish : Nat → Int32}  {k20 : Int32 → Int32 → Int32 → (Nat → Int64) → (Nat → Int32) → (Nat → Int32) → (Nat → Int64) → (Nat → Int32) → (Nat → Int32) → (Nat → Int32) → Int32 → Int32 → Option (Int32 × Int32 × Int32 × (Nat → Int64) × (Nat → Int32) × (Nat → Int32) × (Nat → Int64) × (Nat → Int32) × (Nat → Int32) × (Nat → Int32))} {res : Int32 × Int32 × Int32 × (Nat → Int64) × (Nat → Int32) × (Nat → Int32) × (Nat → Int64) × (Nat → Int32) × (Nat → Int32) × (Nat → Int32)} (hk20 : ∀ {c_full : Int32} {c_firsts : Int32} {c_freed : Int32} {c_cost : Nat → Int64} {c_firstWorth : Nat → Int32} {c_found : Nat → Int32} {c_least : Nat → Int64} {c_seats : Nat → Int32} {c_secondWorth : Nat → Int32} {c_weight : Nat → Int32} {v1 : Int32} {v2 : Int32}, k20 c_full c_firsts c_freed c_cost c_firstWorth c_found c_least c_seats c_secondWorth c_weight v1 v2 = some res → GG mu_X8_findStanding κ ω A (QR κ ω A ad (none) (w_X8_findStanding c_askers c_places res.1 res.2.1 res.2.2.1 res.2.2.2.1 res.2.2.2.2.1 res.2.2.2.2.2.1 res.2.2.2.2.2.2.1 res.2.2.2.2.2.2.2.1 res.2.2.2.2.2.2.2.2.1 res.2.2.2.2.2.2.2.2.2 c_wish u_above u_below u_whole)) ad 0 0 20 (w_X8_findStanding c_askers c_places c_full c_firsts c_freed c_cost c_firstWorth c_found c_least c_seats c_secondWorth c_weight c_wish u_above u_below u_whole) [some (.ref 0), some (.int v1), some (.int v2), none] []) {c_full : Int32} {c_firsts : Int32} {c_freed : Int32} {c_cost : Nat → Int64} {c_firstWorth : Nat → Int32} {c_found : Nat → Int32} {c_least : Nat → Int64} {c_seats : Nat → Int32} {c_secondWorth : Nat → Int32} {c_weight : Nat → Int32} {v1 : Int32} {v2 : Int32} {s1 : Int32} {s2 : Int32} (hf : f_X8_findStanding_62 N c_askers c_places c_wish k20 c_full c_firsts c_freed c_cost c_firstWorth c_found c_least c_seats c_secondWorth c_weight v1 v2 s1 s2 = some res) : GG mu_X8_findStanding κ ω A (QR κ ω A ad (none) (w_X8_findStanding c_askers c_places res.1 res.2.1 res.2.2.1 res.2.2.2.1 res.2.2.2.2.1 res.2.2.2.2.2.1 res.2.2.2.2.2.2.1 res.2.2.2.2.2.2.2.1 res.2.2.2.2.2.2.2.2.1 res.2.2.2.2.2.2.2.2.2 c_wish u_above u_below u_whole)) ad 0 0 62 (w_X8_findStanding c_askers c_places c_full c_firsts c_freed c_cost c_firstWorth c_found c_least c_seats c_secondWorth c_weight c_wish u_above u_below u_whole) [some (.ref 0), some (.int v1), some (.int v2), none] [.int s2, .int s1, .ref 2] := by
  obtain ⟨t1, ht1, hf⟩ := ob hf
  refine G_iast (w2 := (w_X8_findStanding c_askers c_places c_full c_firsts c_freed c_cost t1 c_found c_least c_seats c_secondWorth c_weight c_wish u_above u_below u_whole)) dX8_findStanding_62 rfl ht1 rfl ?_
  refine G_iinc 1 dX8_findStanding_63 (by decide) rfl (ltb rfl) ?_
  change GG _ _ _ _ _ _ _ _ _ _ [some (.ref 0), some (.int v1), some (.int (v2 + 1)), none] _
  refine G_goto 20 dX8_findStanding_66 (by decide) ?_
  exact hk20 hf
def f_X8_findStanding_20 (N : Nat) (c_askers : Int32) (c_places : Int32) (c_wish : Nat → Int32) (k2 : Int32 → Int32 → Int32 → (Nat → Int64) → (Nat → Int32) → (Nat → Int32) → (Nat → Int64) → (Nat → Int32) → (Nat → Int32) → (Nat → Int32) → Int32 → Option (Int32 × Int32 × Int32 × (Nat → Int64) × (Nat → Int32) × (Nat → Int32) × (Nat → Int64) × (Nat → Int32) × (Nat → Int32) × (Nat → Int32))) : Nat → Int32 → Int32 → Int32 → (Nat → Int64) → (Nat → Int32) → (Nat → Int32) → (Nat → Int64) → (Nat → Int32) → (Nat → Int32) → (Nat → Int32) → Int32 → Int32 → Option (Int32 × Int32 × Int32 × (Nat → Int64) × (Nat → Int32) × (Nat → Int32) × (Nat → Int64) × (Nat → Int32) × (Nat → Int32) × (Nat → Int32))
  | 0, _, _, _, _, _, _, _, _, _, _, _, _ => none
  | n + 1, c_full, c_firsts, c_freed, c_cost, c_firstWorth, c_found, c_least, c_seats, c_secondWorth, c_weight, v1, v2 =>
    (if c_places ≤ v2 then
      k2 c_full c_firsts c_freed c_cost c_firstWorth c_found c_least c_seats c_secondWorth c_weight (v1 + 1)
    else
      (f_X8_worthOf N c_wish v1 (v2 + 1)).bind fun r2 =>
      (rdI 8 c_firstWorth v1).bind fun t4 =>
      (if t4 ≤ r2 then
        (rdI 8 c_firstWorth v1).bind fun t6 =>
        f_X8_findStanding_62 N c_askers c_places c_wish (f_X8_findStanding_20 N c_askers c_places c_wish k2 n) c_full c_firsts c_freed c_cost c_firstWorth c_found c_least c_seats c_secondWorth c_weight v1 v2 v1 t6
      else
        f_X8_findStanding_62 N c_askers c_places c_wish (f_X8_findStanding_20 N c_askers c_places c_wish k2 n) c_full c_firsts c_freed c_cost c_firstWorth c_found c_least c_seats c_secondWorth c_weight v1 v2 v1 r2))
set_option maxHeartbeats 4000000 in
set_option maxRecDepth 100000 in
theorem g_X8_findStanding_20 {κ : KC} {ω : KW} {A : Nat → Prop} {ad : Nat → Nat} {u_above : Int64} {u_below : Int64} {u_whole : Int64} {N : Nat} {c_askers : Int32} {c_places : Int32} {c_wish : Nat → Int32}  {k2 : Int32 → Int32 → Int32 → (Nat → Int64) → (Nat → Int32) → (Nat → Int32) → (Nat → Int64) → (Nat → Int32) → (Nat → Int32) → (Nat → Int32) → Int32 → Option (Int32 × Int32 × Int32 × (Nat → Int64) × (Nat → Int32) × (Nat → Int32) × (Nat → Int64) × (Nat → Int32) × (Nat → Int32) × (Nat → Int32))} {res : Int32 × Int32 × Int32 × (Nat → Int64) × (Nat → Int32) × (Nat → Int32) × (Nat → Int64) × (Nat → Int32) × (Nat → Int32) × (Nat → Int32)} (hk2 : ∀ {c_full : Int32} {c_firsts : Int32} {c_freed : Int32} {c_cost : Nat → Int64} {c_firstWorth : Nat → Int32} {c_found : Nat → Int32} {c_least : Nat → Int64} {c_seats : Nat → Int32} {c_secondWorth : Nat → Int32} {c_weight : Nat → Int32} {v1 : Int32}, k2 c_full c_firsts c_freed c_cost c_firstWorth c_found c_least c_seats c_secondWorth c_weight v1 = some res → GG mu_X8_findStanding κ ω A (QR κ ω A ad (none) (w_X8_findStanding c_askers c_places res.1 res.2.1 res.2.2.1 res.2.2.2.1 res.2.2.2.2.1 res.2.2.2.2.2.1 res.2.2.2.2.2.2.1 res.2.2.2.2.2.2.2.1 res.2.2.2.2.2.2.2.2.1 res.2.2.2.2.2.2.2.2.2 c_wish u_above u_below u_whole)) ad 0 0 2 (w_X8_findStanding c_askers c_places c_full c_firsts c_freed c_cost c_firstWorth c_found c_least c_seats c_secondWorth c_weight c_wish u_above u_below u_whole) [some (.ref 0), some (.int v1), none, none] []) : ∀ (n : Nat) {c_full : Int32} {c_firsts : Int32} {c_freed : Int32} {c_cost : Nat → Int64} {c_firstWorth : Nat → Int32} {c_found : Nat → Int32} {c_least : Nat → Int64} {c_seats : Nat → Int32} {c_secondWorth : Nat → Int32} {c_weight : Nat → Int32} {v1 : Int32} {v2 : Int32}, f_X8_findStanding_20 N c_askers c_places c_wish k2 n c_full c_firsts c_freed c_cost c_firstWorth c_found c_least c_seats c_secondWorth c_weight v1 v2 = some res → GG mu_X8_findStanding κ ω A (QR κ ω A ad (none) (w_X8_findStanding c_askers c_places res.1 res.2.1 res.2.2.1 res.2.2.2.1 res.2.2.2.2.1 res.2.2.2.2.2.1 res.2.2.2.2.2.2.1 res.2.2.2.2.2.2.2.1 res.2.2.2.2.2.2.2.2.1 res.2.2.2.2.2.2.2.2.2 c_wish u_above u_below u_whole)) ad 0 0 20 (w_X8_findStanding c_askers c_places c_full c_firsts c_freed c_cost c_firstWorth c_found c_least c_seats c_secondWorth c_weight c_wish u_above u_below u_whole) [some (.ref 0), some (.int v1), some (.int v2), none] [] := by
  intro n
  induction n with
  | zero => intro c_full c_firsts c_freed c_cost c_firstWorth c_found c_least c_seats c_secondWorth c_weight v1 v2 hf; exact ob_0 hf
  | succ n ih =>
    intro c_full c_firsts c_freed c_cost c_firstWorth c_found c_least c_seats c_secondWorth c_weight v1 v2 hf
    refine G_iload_n dX8_findStanding_20 rfl rfl ?_
    refine G_aload_n dX8_findStanding_21 rfl rfl ?_
    refine G_get (v := .int c_places) F_X8_97 dX8_findStanding_22 rfl rfl ?_
    refine G_icmp_ge 69 dX8_findStanding_25 (by decide) (fun h1 => ?_) (fun h1 => ?_)
    · replace hf := ob_t h1 hf
      refine G_iinc 1 dX8_findStanding_69 (by decide) rfl (ltb rfl) ?_
      change GG _ _ _ _ _ _ _ _ _ _ [some (.ref 0), some (.int (v1 + 1)), some (.int v2), none] _
      refine G_goto 2 dX8_findStanding_72 (by decide) ?_
      refine GG.sb (lv2 := [some (.ref 0), some (.int (v1 + 1)), none, none]) ?_ (lvS_v rfl (lvS_v rfl (lvS_n (lvS_n (lvS_e)))))
      exact hk2 hf
    · replace hf := ob_f h1 hf
      refine G_aload_n dX8_findStanding_28 rfl rfl ?_
      refine G_iload_n dX8_findStanding_29 rfl rfl ?_
      refine G_iload_n dX8_findStanding_30 rfl rfl ?_
      refine G_iconst 1 dX8_findStanding_31 (by decide) ?_
      refine G_iadd dX8_findStanding_32 ?_
      obtain ⟨r2, hc3, hf⟩ := ob hf
      refine G_callV (μ2 := mu_X8_worthOf) (As := [.int v1, .int (v2 + 1)]) (w2 := (w_X8_findStanding c_askers c_places c_full c_firsts c_freed c_cost c_firstWorth c_found c_least c_seats c_secondWorth c_weight c_wish u_above u_below u_whole)) (wc := (w_X8_worthOf c_wish c_askers c_places u_above u_below c_full c_firsts c_freed u_whole)) (wc2 := (w_X8_worthOf c_wish c_askers c_places u_above u_below c_full c_firsts c_freed u_whole)) (rest := []) (rv := [.int r2]) [0, 8] [5, 1000, 7, 1001, 3, 1, 4, 1002, 1003, 2, 6, 1004, 1005, 1006, 1007, 1008, 1009, 1010, 1011, 1012] [1, 2, 3, 4, 5, 6, 7] [7, 0, 1, 2, 3, 4, 5, 6, 8] (c_X8_worthOf hc3) cw_X8_worthOf m_X8_111 dX8_findStanding_33 rfl ⟨leb rfl, leb rfl⟩ ⟨rfl, rfl⟩ rfl ⟨_, rfl, rfl⟩ (Fit.mk rfl rfl rfl) rfl (leb rfl) (ROsub.nil rfl rfl) rfl ?_
      change GG _ _ _ _ _ _ _ _ _ (w_X8_findStanding c_askers c_places c_full c_firsts c_freed c_cost c_firstWorth c_found c_least c_seats c_secondWorth c_weight c_wish u_above u_below u_whole) [some (.ref 0), some (.int v1), some (.int v2), none] [.int r2]
      refine G_istore_n dX8_findStanding_36 rfl (ltb rfl) ?_
      change GG _ _ _ _ _ _ _ _ _ _ [some (.ref 0), some (.int v1), some (.int v2), some (.int r2)] _
      refine G_aload_n dX8_findStanding_37 rfl rfl ?_
      refine G_get (v := .ref 2) F_X8_42 dX8_findStanding_38 rfl rfl ?_
      refine G_iload_n dX8_findStanding_41 rfl rfl ?_
      refine G_iload_n dX8_findStanding_42 rfl rfl ?_
      refine G_aload_n dX8_findStanding_43 rfl rfl ?_
      refine G_get (v := .ref 2) F_X8_42 dX8_findStanding_44 rfl rfl ?_
      refine G_iload_n dX8_findStanding_47 rfl rfl ?_
      obtain ⟨t4, ht4, hf⟩ := ob hf
      refine G_iald dX8_findStanding_48 rfl ht4 ?_
      refine G_icmp_ge 56 dX8_findStanding_49 (by decide) (fun h5 => ?_) (fun h5 => ?_)
      · replace hf := ob_t h5 hf
        refine G_aload_n dX8_findStanding_56 rfl rfl ?_
        refine G_get (v := .ref 2) F_X8_42 dX8_findStanding_57 rfl rfl ?_
        refine G_iload_n dX8_findStanding_60 rfl rfl ?_
        obtain ⟨t6, ht6, hf⟩ := ob hf
        refine G_iald dX8_findStanding_61 rfl ht6 ?_
        refine GG.sb (lv2 := [some (.ref 0), some (.int v1), some (.int v2), none]) ?_ (lvS_v rfl (lvS_v rfl (lvS_v rfl (lvS_n (lvS_e)))))
        exact g_X8_findStanding_62 ih hf
      · replace hf := ob_f h5 hf
        refine G_iload_n dX8_findStanding_52 rfl rfl ?_
        refine G_goto 62 dX8_findStanding_53 (by decide) ?_
        refine GG.sb (lv2 := [some (.ref 0), some (.int v1), some (.int v2), none]) ?_ (lvS_v rfl (lvS_v rfl (lvS_v rfl (lvS_n (lvS_e)))))
        exact g_X8_findStanding_62 ih hf
def f_X8_findStanding_2 (N : Nat) (c_askers : Int32) (c_places : Int32) (c_wish : Nat → Int32) : Nat → Int32 → Int32 → Int32 → (Nat → Int64) → (Nat → Int32) → (Nat → Int32) → (Nat → Int64) → (Nat → Int32) → (Nat → Int32) → (Nat → Int32) → Int32 → Option (Int32 × Int32 × Int32 × (Nat → Int64) × (Nat → Int32) × (Nat → Int32) × (Nat → Int64) × (Nat → Int32) × (Nat → Int32) × (Nat → Int32))
  | 0, _, _, _, _, _, _, _, _, _, _, _ => none
  | n + 1, c_full, c_firsts, c_freed, c_cost, c_firstWorth, c_found, c_least, c_seats, c_secondWorth, c_weight, v1 =>
    (if c_askers ≤ v1 then
      (f_X8_mostFirsts N c_askers c_places c_firstWorth c_wish c_full c_cost c_found c_least c_seats c_weight (-1 : Int32)).bind fun (r2, o3, o4, o5, o6, o7, o8) =>
      f_X8_findStanding_91 N c_askers c_places c_wish N o3 r2 0 o4 c_firstWorth o5 o6 o7 c_secondWorth o8 0
    else
      (wrI 8 c_firstWorth v1 7).bind fun t10 =>
      f_X8_findStanding_20 N c_askers c_places c_wish (f_X8_findStanding_2 N c_askers c_places c_wish n) N c_full c_firsts c_freed c_cost t10 c_found c_least c_seats c_secondWorth c_weight v1 0)
set_option maxHeartbeats 4000000 in
set_option maxRecDepth 100000 in
theorem g_X8_findStanding_2 {κ : KC} {ω : KW} {A : Nat → Prop} {ad : Nat → Nat} {u_above : Int64} {u_below : Int64} {u_whole : Int64} {N : Nat} {c_askers : Int32} {c_places : Int32} {c_wish : Nat → Int32}  {res : Int32 × Int32 × Int32 × (Nat → Int64) × (Nat → Int32) × (Nat → Int32) × (Nat → Int64) × (Nat → Int32) × (Nat → Int32) × (Nat → Int32)} : ∀ (n : Nat) {c_full : Int32} {c_firsts : Int32} {c_freed : Int32} {c_cost : Nat → Int64} {c_firstWorth : Nat → Int32} {c_found : Nat → Int32} {c_least : Nat → Int64} {c_seats : Nat → Int32} {c_secondWorth : Nat → Int32} {c_weight : Nat → Int32} {v1 : Int32}, f_X8_findStanding_2 N c_askers c_places c_wish n c_full c_firsts c_freed c_cost c_firstWorth c_found c_least c_seats c_secondWorth c_weight v1 = some res → GG mu_X8_findStanding κ ω A (QR κ ω A ad (none) (w_X8_findStanding c_askers c_places res.1 res.2.1 res.2.2.1 res.2.2.2.1 res.2.2.2.2.1 res.2.2.2.2.2.1 res.2.2.2.2.2.2.1 res.2.2.2.2.2.2.2.1 res.2.2.2.2.2.2.2.2.1 res.2.2.2.2.2.2.2.2.2 c_wish u_above u_below u_whole)) ad 0 0 2 (w_X8_findStanding c_askers c_places c_full c_firsts c_freed c_cost c_firstWorth c_found c_least c_seats c_secondWorth c_weight c_wish u_above u_below u_whole) [some (.ref 0), some (.int v1), none, none] [] := by
  intro n
  induction n with
  | zero => intro c_full c_firsts c_freed c_cost c_firstWorth c_found c_least c_seats c_secondWorth c_weight v1 hf; exact ob_0 hf
  | succ n ih =>
    intro c_full c_firsts c_freed c_cost c_firstWorth c_found c_least c_seats c_secondWorth c_weight v1 hf
    refine G_iload_n dX8_findStanding_2 rfl rfl ?_
    refine G_aload_n dX8_findStanding_3 rfl rfl ?_
    refine G_get (v := .int c_askers) F_X8_89 dX8_findStanding_4 rfl rfl ?_
    refine G_icmp_ge 75 dX8_findStanding_7 (by decide) (fun h1 => ?_) (fun h1 => ?_)
    · replace hf := ob_t h1 hf
      refine G_aload_n dX8_findStanding_75 rfl rfl ?_
      refine G_aload_n dX8_findStanding_76 rfl rfl ?_
      refine G_iconst (-1 : Int32) dX8_findStanding_77 (by decide) ?_
      obtain ⟨⟨r2, o3, o4, o5, o6, o7, o8⟩, hc9, hf⟩ := ob hf
      refine G_callV (μ2 := mu_X8_mostFirsts) (As := [.int (-1 : Int32)]) (w2 := (w_X8_findStanding c_askers c_places o3 c_firsts c_freed o4 c_firstWorth o5 o6 o7 c_secondWorth o8 c_wish u_above u_below u_whole)) (wc := (w_X8_mostFirsts c_askers c_places c_full c_cost c_firstWorth c_found c_least c_seats c_weight c_wish u_above u_below c_firsts c_freed u_whole)) (wc2 := (w_X8_mostFirsts c_askers c_places o3 o4 c_firstWorth o5 o6 o7 o8 c_wish u_above u_below c_firsts c_freed u_whole)) (rest := [.ref 0]) (rv := [.int r2]) [0, 1, 2, 3, 4, 5, 7, 8] [1000, 1001, 1002, 1003, 6, 1004, 1005, 1006, 1007, 1008, 1009, 1010, 1011, 1012] [6] [1, 2, 3, 4, 5, 6, 0, 7, 8] (c_X8_mostFirsts hc9) cw_X8_mostFirsts m_X8_170 dX8_findStanding_78 rfl ⟨leb rfl, leb rfl⟩ ⟨rfl, rfl⟩ rfl ⟨_, rfl, rfl⟩ (Fit.mk rfl rfl rfl) rfl (leb rfl) (ROsub.nil rfl rfl) rfl ?_
      change GG _ _ _ _ _ _ _ _ _ (w_X8_findStanding c_askers c_places o3 c_firsts c_freed o4 c_firstWorth o5 o6 o7 c_secondWorth o8 c_wish u_above u_below u_whole) [some (.ref 0), some (.int v1), none, none] [.int r2, .ref 0]
      refine G_put (w2 := (w_X8_findStanding c_askers c_places o3 r2 c_freed o4 c_firstWorth o5 o6 o7 c_secondWorth o8 c_wish u_above u_below u_whole)) F_X8_174 dX8_findStanding_81 rfl rfl rfl (ltb rfl) rfl ?_
      refine G_aload_n dX8_findStanding_84 rfl rfl ?_
      refine G_iconst 0 dX8_findStanding_85 (by decide) ?_
      refine G_put (w2 := (w_X8_findStanding c_askers c_places o3 r2 0 o4 c_firstWorth o5 o6 o7 c_secondWorth o8 c_wish u_above u_below u_whole)) F_X8_177 dX8_findStanding_86 rfl rfl rfl (ltb rfl) rfl ?_
      refine G_iconst 0 dX8_findStanding_89 (by decide) ?_
      refine G_istore_n dX8_findStanding_90 rfl (ltb rfl) ?_
      change GG _ _ _ _ _ _ _ _ _ _ [some (.ref 0), some (.int 0), none, none] _
      exact g_X8_findStanding_91 N hf
    · replace hf := ob_f h1 hf
      refine G_aload_n dX8_findStanding_10 rfl rfl ?_
      refine G_get (v := .ref 2) F_X8_42 dX8_findStanding_11 rfl rfl ?_
      refine G_iload_n dX8_findStanding_14 rfl rfl ?_
      refine G_bipush 7 dX8_findStanding_15 (by decide) ?_
      obtain ⟨t10, ht10, hf⟩ := ob hf
      refine G_iast (w2 := (w_X8_findStanding c_askers c_places c_full c_firsts c_freed c_cost t10 c_found c_least c_seats c_secondWorth c_weight c_wish u_above u_below u_whole)) dX8_findStanding_17 rfl ht10 rfl ?_
      refine G_iconst 0 dX8_findStanding_18 (by decide) ?_
      refine G_istore_n dX8_findStanding_19 rfl (ltb rfl) ?_
      change GG _ _ _ _ _ _ _ _ _ _ [some (.ref 0), some (.int v1), some (.int 0), none] _
      exact g_X8_findStanding_20 ih N hf
def f_X8_findStanding (N : Nat) (c_askers : Int32) (c_places : Int32) (c_wish : Nat → Int32) (c_full : Int32) (c_firsts : Int32) (c_freed : Int32) (c_cost : Nat → Int64) (c_firstWorth : Nat → Int32) (c_found : Nat → Int32) (c_least : Nat → Int64) (c_seats : Nat → Int32) (c_secondWorth : Nat → Int32) (c_weight : Nat → Int32)  : Option (Int32 × Int32 × Int32 × (Nat → Int64) × (Nat → Int32) × (Nat → Int32) × (Nat → Int64) × (Nat → Int32) × (Nat → Int32) × (Nat → Int32)) :=
  f_X8_findStanding_2 N c_askers c_places c_wish N c_full c_firsts c_freed c_cost c_firstWorth c_found c_least c_seats c_secondWorth c_weight 0
set_option maxHeartbeats 4000000 in
set_option maxRecDepth 100000 in
theorem c_X8_findStanding {N : Nat} {c_askers : Int32} {c_places : Int32} {c_wish : Nat → Int32} {c_full : Int32} {c_firsts : Int32} {c_freed : Int32} {c_cost : Nat → Int64} {c_firstWorth : Nat → Int32} {c_found : Nat → Int32} {c_least : Nat → Int64} {c_seats : Nat → Int32} {c_secondWorth : Nat → Int32} {c_weight : Nat → Int32} {u_above : Int64} {u_below : Int64} {u_whole : Int64}  {res : Int32 × Int32 × Int32 × (Nat → Int64) × (Nat → Int32) × (Nat → Int32) × (Nat → Int64) × (Nat → Int32) × (Nat → Int32) × (Nat → Int32)} (hf : f_X8_findStanding N c_askers c_places c_wish c_full c_firsts c_freed c_cost c_firstWorth c_found c_least c_seats c_secondWorth c_weight = some res) : Con mu_X8_findStanding [.ref 0] (w_X8_findStanding c_askers c_places c_full c_firsts c_freed c_cost c_firstWorth c_found c_least c_seats c_secondWorth c_weight c_wish u_above u_below u_whole) (none) (w_X8_findStanding c_askers c_places res.1 res.2.1 res.2.2.1 res.2.2.2.1 res.2.2.2.2.1 res.2.2.2.2.2.1 res.2.2.2.2.2.2.1 res.2.2.2.2.2.2.2.1 res.2.2.2.2.2.2.2.2.1 res.2.2.2.2.2.2.2.2.2 c_wish u_above u_below u_whole) := by
  refine Con.mk (show plainName RX8 = true by decide +kernel) (leb rfl) (fun κ ω A ad => ?_)
  change GG mu_X8_findStanding κ ω A (QR κ ω A ad (none) (w_X8_findStanding c_askers c_places res.1 res.2.1 res.2.2.1 res.2.2.2.1 res.2.2.2.2.1 res.2.2.2.2.2.1 res.2.2.2.2.2.2.1 res.2.2.2.2.2.2.2.1 res.2.2.2.2.2.2.2.2.1 res.2.2.2.2.2.2.2.2.2 c_wish u_above u_below u_whole)) ad 0 0 0 (w_X8_findStanding c_askers c_places c_full c_firsts c_freed c_cost c_firstWorth c_found c_least c_seats c_secondWorth c_weight c_wish u_above u_below u_whole) [some (.ref 0), none, none, none] []
  refine G_iconst 0 dX8_findStanding_0 (by decide) ?_
  refine G_istore_n dX8_findStanding_1 rfl (ltb rfl) ?_
  change GG _ _ _ _ _ _ _ _ _ _ [some (.ref 0), some (.int 0), none, none] _
  exact g_X8_findStanding_2 N hf
set_option maxRecDepth 20000 in
theorem dX8_isFirst_0 : decode cX8_isFirst 0 = .ok (.iload_n 2, 1) := by decide +kernel
set_option maxRecDepth 20000 in
theorem dX8_isFirst_1 : decode cX8_isFirst 1 = .ok (.ifCond .le 22, 3) := by decide +kernel
set_option maxRecDepth 20000 in
theorem dX8_isFirst_4 : decode cX8_isFirst 4 = .ok (.aload_n 0, 1) := by decide +kernel
set_option maxRecDepth 20000 in
theorem dX8_isFirst_5 : decode cX8_isFirst 5 = .ok (.iload_n 1, 1) := by decide +kernel
set_option maxRecDepth 20000 in
theorem dX8_isFirst_6 : decode cX8_isFirst 6 = .ok (.iload_n 2, 1) := by decide +kernel
set_option maxRecDepth 20000 in
theorem dX8_isFirst_7 : decode cX8_isFirst 7 = .ok (.invokevirtual 111, 3) := by decide +kernel
set_option maxRecDepth 20000 in
theorem dX8_isFirst_10 : decode cX8_isFirst 10 = .ok (.aload_n 0, 1) := by decide +kernel
set_option maxRecDepth 20000 in
theorem dX8_isFirst_11 : decode cX8_isFirst 11 = .ok (.getfield 42, 3) := by decide +kernel
set_option maxRecDepth 20000 in
theorem dX8_isFirst_14 : decode cX8_isFirst 14 = .ok (.iload_n 1, 1) := by decide +kernel
set_option maxRecDepth 20000 in
theorem dX8_isFirst_15 : decode cX8_isFirst 15 = .ok (.iaload, 1) := by decide +kernel
set_option maxRecDepth 20000 in
theorem dX8_isFirst_16 : decode cX8_isFirst 16 = .ok (.if_icmp .ne 7, 3) := by decide +kernel
set_option maxRecDepth 20000 in
theorem dX8_isFirst_19 : decode cX8_isFirst 19 = .ok (.iconst 1, 1) := by decide +kernel
set_option maxRecDepth 20000 in
theorem dX8_isFirst_20 : decode cX8_isFirst 20 = .ok (.goto 4, 3) := by decide +kernel
set_option maxRecDepth 20000 in
theorem dX8_isFirst_23 : decode cX8_isFirst 23 = .ok (.iconst 0, 1) := by decide +kernel
set_option maxRecDepth 20000 in
theorem dX8_isFirst_24 : decode cX8_isFirst 24 = .ok (.ireturn, 1) := by decide +kernel
def f_X8_isFirst (N : Nat) (c_firstWorth : Nat → Int32) (c_wish : Nat → Int32) (a1 : Int32) (a2 : Int32) : Option (Int32) :=
  (if a2 ≤ 0 then
    some 0
  else
    (f_X8_worthOf N c_wish a1 a2).bind fun r2 =>
    (rdI 8 c_firstWorth a1).bind fun t4 =>
    (if r2 = t4 then
      some 1
    else
      some 0))
set_option maxHeartbeats 4000000 in
set_option maxRecDepth 100000 in
theorem c_X8_isFirst {N : Nat} {c_firstWorth : Nat → Int32} {c_wish : Nat → Int32}  {u_askers : Int32} {u_places : Int32} {u_above : Int64} {u_below : Int64} {u_full : Int32} {u_firsts : Int32} {u_freed : Int32} {u_whole : Int64} {a1 : Int32} {a2 : Int32} {res : Int32} (hf : f_X8_isFirst N c_firstWorth c_wish a1 a2 = some res) : Con mu_X8_isFirst [.ref 0, .int a1, .int a2] (w_X8_isFirst c_firstWorth c_wish u_askers u_places u_above u_below u_full u_firsts u_freed u_whole) (some (.int res)) (w_X8_isFirst c_firstWorth c_wish u_askers u_places u_above u_below u_full u_firsts u_freed u_whole) := by
  refine Con.mk (show plainName RX8 = true by decide +kernel) (leb rfl) (fun κ ω A ad => ?_)
  change GG mu_X8_isFirst κ ω A (QR κ ω A ad (some (.int res)) (w_X8_isFirst c_firstWorth c_wish u_askers u_places u_above u_below u_full u_firsts u_freed u_whole)) ad 0 0 0 (w_X8_isFirst c_firstWorth c_wish u_askers u_places u_above u_below u_full u_firsts u_freed u_whole) [some (.ref 0), some (.int a1), some (.int a2)] []
  refine G_iload_n dX8_isFirst_0 rfl rfl ?_
  refine G_if_le 23 dX8_isFirst_1 (by decide) (fun h1 => ?_) (fun h1 => ?_)
  · replace hf := ob_t h1 hf
    refine G_iconst 0 dX8_isFirst_23 (by decide) ?_
    obtain rfl := os hf
    exact G_zreturn dX8_isFirst_24 rfl z_0
  · replace hf := ob_f h1 hf
    refine G_aload_n dX8_isFirst_4 rfl rfl ?_
    refine G_iload_n dX8_isFirst_5 rfl rfl ?_
    refine G_iload_n dX8_isFirst_6 rfl rfl ?_
    obtain ⟨r2, hc3, hf⟩ := ob hf
    refine G_callV (μ2 := mu_X8_worthOf) (As := [.int a1, .int a2]) (w2 := (w_X8_isFirst c_firstWorth c_wish u_askers u_places u_above u_below u_full u_firsts u_freed u_whole)) (wc := (w_X8_worthOf c_wish u_askers u_places u_above u_below u_full u_firsts u_freed u_whole)) (wc2 := (w_X8_worthOf c_wish u_askers u_places u_above u_below u_full u_firsts u_freed u_whole)) (rest := []) (rv := [.int r2]) [0, 2] [1000, 1001, 1002, 1003, 1004, 1005, 1006, 1007, 1008, 1, 1009, 1010, 1011, 1012, 1013, 1014, 1015, 1016, 1017, 1018] [1] [1, 0, 2] (c_X8_worthOf hc3) cw_X8_worthOf m_X8_111 dX8_isFirst_7 rfl ⟨leb rfl, leb rfl⟩ ⟨rfl, rfl⟩ rfl ⟨_, rfl, rfl⟩ (Fit.mk rfl rfl rfl) rfl (leb rfl) (ROsub.nil rfl rfl) rfl ?_
    change GG _ _ _ _ _ _ _ _ _ (w_X8_isFirst c_firstWorth c_wish u_askers u_places u_above u_below u_full u_firsts u_freed u_whole) [some (.ref 0), some (.int a1), some (.int a2)] [.int r2]
    refine G_aload_n dX8_isFirst_10 rfl rfl ?_
    refine G_get (v := .ref 1) F_X8_42 dX8_isFirst_11 rfl rfl ?_
    refine G_iload_n dX8_isFirst_14 rfl rfl ?_
    obtain ⟨t4, ht4, hf⟩ := ob hf
    refine G_iald dX8_isFirst_15 rfl ht4 ?_
    refine G_icmp_ne 23 dX8_isFirst_16 (by decide) (fun h5 => ?_) (fun h5 => ?_)
    · replace hf := ob_f h5 hf
      refine G_iconst 0 dX8_isFirst_23 (by decide) ?_
      obtain rfl := os hf
      exact G_zreturn dX8_isFirst_24 rfl z_0
    · replace hf := ob_t h5 hf
      refine G_iconst 1 dX8_isFirst_19 (by decide) ?_
      refine G_goto 24 dX8_isFirst_20 (by decide) ?_
      obtain rfl := os hf
      exact G_zreturn dX8_isFirst_24 rfl z_1
set_option maxRecDepth 20000 in
theorem dX8_mayStand_0 : decode cX8_mayStand 0 = .ok (.iload_n 2, 1) := by decide +kernel
set_option maxRecDepth 20000 in
theorem dX8_mayStand_1 : decode cX8_mayStand 1 = .ok (.ifCond .eq 17, 3) := by decide +kernel
set_option maxRecDepth 20000 in
theorem dX8_mayStand_4 : decode cX8_mayStand 4 = .ok (.aload_n 0, 1) := by decide +kernel
set_option maxRecDepth 20000 in
theorem dX8_mayStand_5 : decode cX8_mayStand 5 = .ok (.getfield 177, 3) := by decide +kernel
set_option maxRecDepth 20000 in
theorem dX8_mayStand_8 : decode cX8_mayStand 8 = .ok (.iload_n 2, 1) := by decide +kernel
set_option maxRecDepth 20000 in
theorem dX8_mayStand_9 : decode cX8_mayStand 9 = .ok (.iconst 1, 1) := by decide +kernel
set_option maxRecDepth 20000 in
theorem dX8_mayStand_10 : decode cX8_mayStand 10 = .ok (.isub, 1) := by decide +kernel
set_option maxRecDepth 20000 in
theorem dX8_mayStand_11 : decode cX8_mayStand 11 = .ok (.ishr, 1) := by decide +kernel
set_option maxRecDepth 20000 in
theorem dX8_mayStand_12 : decode cX8_mayStand 12 = .ok (.iconst 1, 1) := by decide +kernel
set_option maxRecDepth 20000 in
theorem dX8_mayStand_13 : decode cX8_mayStand 13 = .ok (.iand, 1) := by decide +kernel
set_option maxRecDepth 20000 in
theorem dX8_mayStand_14 : decode cX8_mayStand 14 = .ok (.iconst 1, 1) := by decide +kernel
set_option maxRecDepth 20000 in
theorem dX8_mayStand_15 : decode cX8_mayStand 15 = .ok (.if_icmp .ne 7, 3) := by decide +kernel
set_option maxRecDepth 20000 in
theorem dX8_mayStand_18 : decode cX8_mayStand 18 = .ok (.iconst 1, 1) := by decide +kernel
set_option maxRecDepth 20000 in
theorem dX8_mayStand_19 : decode cX8_mayStand 19 = .ok (.goto 4, 3) := by decide +kernel
set_option maxRecDepth 20000 in
theorem dX8_mayStand_22 : decode cX8_mayStand 22 = .ok (.iconst 0, 1) := by decide +kernel
set_option maxRecDepth 20000 in
theorem dX8_mayStand_23 : decode cX8_mayStand 23 = .ok (.istore_n 3, 1) := by decide +kernel
set_option maxRecDepth 20000 in
theorem dX8_mayStand_24 : decode cX8_mayStand 24 = .ok (.aload_n 0, 1) := by decide +kernel
set_option maxRecDepth 20000 in
theorem dX8_mayStand_25 : decode cX8_mayStand 25 = .ok (.iload_n 1, 1) := by decide +kernel
set_option maxRecDepth 20000 in
theorem dX8_mayStand_26 : decode cX8_mayStand 26 = .ok (.iload_n 2, 1) := by decide +kernel
set_option maxRecDepth 20000 in
theorem dX8_mayStand_27 : decode cX8_mayStand 27 = .ok (.invokevirtual 180, 3) := by decide +kernel
set_option maxRecDepth 20000 in
theorem dX8_mayStand_30 : decode cX8_mayStand 30 = .ok (.ifCond .ne 22, 3) := by decide +kernel
set_option maxRecDepth 20000 in
theorem dX8_mayStand_33 : decode cX8_mayStand 33 = .ok (.iload_n 3, 1) := by decide +kernel
set_option maxRecDepth 20000 in
theorem dX8_mayStand_34 : decode cX8_mayStand 34 = .ok (.ifCond .eq 22, 3) := by decide +kernel
set_option maxRecDepth 20000 in
theorem dX8_mayStand_37 : decode cX8_mayStand 37 = .ok (.aload_n 0, 1) := by decide +kernel
set_option maxRecDepth 20000 in
theorem dX8_mayStand_38 : decode cX8_mayStand 38 = .ok (.iload_n 1, 1) := by decide +kernel
set_option maxRecDepth 20000 in
theorem dX8_mayStand_39 : decode cX8_mayStand 39 = .ok (.iload_n 2, 1) := by decide +kernel
set_option maxRecDepth 20000 in
theorem dX8_mayStand_40 : decode cX8_mayStand 40 = .ok (.invokevirtual 111, 3) := by decide +kernel
set_option maxRecDepth 20000 in
theorem dX8_mayStand_43 : decode cX8_mayStand 43 = .ok (.aload_n 0, 1) := by decide +kernel
set_option maxRecDepth 20000 in
theorem dX8_mayStand_44 : decode cX8_mayStand 44 = .ok (.getfield 45, 3) := by decide +kernel
set_option maxRecDepth 20000 in
theorem dX8_mayStand_47 : decode cX8_mayStand 47 = .ok (.iload_n 1, 1) := by decide +kernel
set_option maxRecDepth 20000 in
theorem dX8_mayStand_48 : decode cX8_mayStand 48 = .ok (.iaload, 1) := by decide +kernel
set_option maxRecDepth 20000 in
theorem dX8_mayStand_49 : decode cX8_mayStand 49 = .ok (.if_icmp .ne 7, 3) := by decide +kernel
set_option maxRecDepth 20000 in
theorem dX8_mayStand_52 : decode cX8_mayStand 52 = .ok (.iconst 1, 1) := by decide +kernel
set_option maxRecDepth 20000 in
theorem dX8_mayStand_53 : decode cX8_mayStand 53 = .ok (.goto 4, 3) := by decide +kernel
set_option maxRecDepth 20000 in
theorem dX8_mayStand_56 : decode cX8_mayStand 56 = .ok (.iconst 0, 1) := by decide +kernel
set_option maxRecDepth 20000 in
theorem dX8_mayStand_57 : decode cX8_mayStand 57 = .ok (.ireturn, 1) := by decide +kernel
def f_X8_mayStand_23 (N : Nat) (c_freed : Int32) (c_firstWorth : Nat → Int32) (c_secondWorth : Nat → Int32) (c_wish : Nat → Int32) (v1 : Int32) (v2 : Int32) (s0 : Int32) : Option (Int32) :=
    (f_X8_isFirst N c_firstWorth c_wish v1 v2).bind fun r1 =>
    (if r1 = 0 then
      (if s0 = 0 then
        some 0
      else
        (f_X8_worthOf N c_wish v1 v2).bind fun r5 =>
        (rdI 8 c_secondWorth v1).bind fun t7 =>
        (if r5 = t7 then
          some 1
        else
          some 0))
    else
      some 1)
set_option maxHeartbeats 4000000 in
set_option maxRecDepth 100000 in
theorem g_X8_mayStand_23 {κ : KC} {ω : KW} {A : Nat → Prop} {ad : Nat → Nat} {u_askers : Int32} {u_places : Int32} {u_above : Int64} {u_below : Int64} {u_full : Int32} {u_firsts : Int32} {u_whole : Int64} {N : Nat} {c_freed : Int32} {c_firstWorth : Nat → Int32} {c_secondWorth : Nat → Int32} {c_wish : Nat → Int32}  {res : Int32} {v1 : Int32} {v2 : Int32} {s0 : Int32} (hf : f_X8_mayStand_23 N c_freed c_firstWorth c_secondWorth c_wish v1 v2 s0 = some res) : GG mu_X8_mayStand κ ω A (QR κ ω A ad (some (.int res)) (w_X8_mayStand c_freed c_firstWorth c_secondWorth c_wish u_askers u_places u_above u_below u_full u_firsts u_whole)) ad 0 0 23 (w_X8_mayStand c_freed c_firstWorth c_secondWorth c_wish u_askers u_places u_above u_below u_full u_firsts u_whole) [some (.ref 0), some (.int v1), some (.int v2), none] [.int s0] := by
  refine G_istore_n dX8_mayStand_23 rfl (ltb rfl) ?_
  change GG _ _ _ _ _ _ _ _ _ _ [some (.ref 0), some (.int v1), some (.int v2), some (.int s0)] _
  refine G_aload_n dX8_mayStand_24 rfl rfl ?_
  refine G_iload_n dX8_mayStand_25 rfl rfl ?_
  refine G_iload_n dX8_mayStand_26 rfl rfl ?_
  obtain ⟨r1, hc2, hf⟩ := ob hf
  refine G_callV (μ2 := mu_X8_isFirst) (As := [.int v1, .int v2]) (w2 := (w_X8_mayStand c_freed c_firstWorth c_secondWorth c_wish u_askers u_places u_above u_below u_full u_firsts u_whole)) (wc := (w_X8_isFirst c_firstWorth c_wish u_askers u_places u_above u_below u_full u_firsts c_freed u_whole)) (wc2 := (w_X8_isFirst c_firstWorth c_wish u_askers u_places u_above u_below u_full u_firsts c_freed u_whole)) (rest := []) (rv := [.int r1]) [0, 1, 3] [1000, 1001, 1002, 1003, 1004, 1005, 1006, 1007, 1008, 2, 1009, 1010, 1011, 1012, 1013, 1014, 1015, 1016, 1017] [2] [1, 2, 0, 3] (c_X8_isFirst hc2) cw_X8_isFirst m_X8_180 dX8_mayStand_27 rfl ⟨leb rfl, leb rfl⟩ ⟨rfl, rfl⟩ rfl ⟨_, rfl, rfl⟩ (Fit.mk rfl rfl rfl) rfl (leb rfl) (ROsub.nil rfl rfl) rfl ?_
  change GG _ _ _ _ _ _ _ _ _ (w_X8_mayStand c_freed c_firstWorth c_secondWorth c_wish u_askers u_places u_above u_below u_full u_firsts u_whole) [some (.ref 0), some (.int v1), some (.int v2), some (.int s0)] [.int r1]
  refine G_if_ne 52 dX8_mayStand_30 (by decide) (fun h3 => ?_) (fun h3 => ?_)
  · replace hf := ob_f h3 hf
    refine G_iconst 1 dX8_mayStand_52 (by decide) ?_
    refine G_goto 57 dX8_mayStand_53 (by decide) ?_
    obtain rfl := os hf
    exact G_zreturn dX8_mayStand_57 rfl z_1
  · replace hf := ob_t h3 hf
    refine G_iload_n dX8_mayStand_33 rfl rfl ?_
    refine G_if_eq 56 dX8_mayStand_34 (by decide) (fun h4 => ?_) (fun h4 => ?_)
    · replace hf := ob_t h4 hf
      refine G_iconst 0 dX8_mayStand_56 (by decide) ?_
      obtain rfl := os hf
      exact G_zreturn dX8_mayStand_57 rfl z_0
    · replace hf := ob_f h4 hf
      refine G_aload_n dX8_mayStand_37 rfl rfl ?_
      refine G_iload_n dX8_mayStand_38 rfl rfl ?_
      refine G_iload_n dX8_mayStand_39 rfl rfl ?_
      obtain ⟨r5, hc6, hf⟩ := ob hf
      refine G_callV (μ2 := mu_X8_worthOf) (As := [.int v1, .int v2]) (w2 := (w_X8_mayStand c_freed c_firstWorth c_secondWorth c_wish u_askers u_places u_above u_below u_full u_firsts u_whole)) (wc := (w_X8_worthOf c_wish u_askers u_places u_above u_below u_full u_firsts c_freed u_whole)) (wc2 := (w_X8_worthOf c_wish u_askers u_places u_above u_below u_full u_firsts c_freed u_whole)) (rest := []) (rv := [.int r5]) [0, 3] [1000, 1001, 1002, 1003, 1004, 1005, 1006, 1007, 1008, 1, 2, 1009, 1010, 1011, 1012, 1013, 1014, 1015, 1016, 1017] [1, 2] [2, 0, 1, 3] (c_X8_worthOf hc6) cw_X8_worthOf m_X8_111 dX8_mayStand_40 rfl ⟨leb rfl, leb rfl⟩ ⟨rfl, rfl⟩ rfl ⟨_, rfl, rfl⟩ (Fit.mk rfl rfl rfl) rfl (leb rfl) (ROsub.nil rfl rfl) rfl ?_
      change GG _ _ _ _ _ _ _ _ _ (w_X8_mayStand c_freed c_firstWorth c_secondWorth c_wish u_askers u_places u_above u_below u_full u_firsts u_whole) [some (.ref 0), some (.int v1), some (.int v2), some (.int s0)] [.int r5]
      refine G_aload_n dX8_mayStand_43 rfl rfl ?_
      refine G_get (v := .ref 2) F_X8_45 dX8_mayStand_44 rfl rfl ?_
      refine G_iload_n dX8_mayStand_47 rfl rfl ?_
      obtain ⟨t7, ht7, hf⟩ := ob hf
      refine G_iald dX8_mayStand_48 rfl ht7 ?_
      refine G_icmp_ne 56 dX8_mayStand_49 (by decide) (fun h8 => ?_) (fun h8 => ?_)
      · replace hf := ob_f h8 hf
        refine G_iconst 0 dX8_mayStand_56 (by decide) ?_
        obtain rfl := os hf
        exact G_zreturn dX8_mayStand_57 rfl z_0
      · replace hf := ob_t h8 hf
        refine G_iconst 1 dX8_mayStand_52 (by decide) ?_
        refine G_goto 57 dX8_mayStand_53 (by decide) ?_
        obtain rfl := os hf
        exact G_zreturn dX8_mayStand_57 rfl z_1
def f_X8_mayStand_18 (N : Nat) (c_freed : Int32) (c_firstWorth : Nat → Int32) (c_secondWorth : Nat → Int32) (c_wish : Nat → Int32) (v1 : Int32) (v2 : Int32) : Option (Int32) :=
    f_X8_mayStand_23 N c_freed c_firstWorth c_secondWorth c_wish v1 v2 1
set_option maxHeartbeats 4000000 in
set_option maxRecDepth 100000 in
theorem g_X8_mayStand_18 {κ : KC} {ω : KW} {A : Nat → Prop} {ad : Nat → Nat} {u_askers : Int32} {u_places : Int32} {u_above : Int64} {u_below : Int64} {u_full : Int32} {u_firsts : Int32} {u_whole : Int64} {N : Nat} {c_freed : Int32} {c_firstWorth : Nat → Int32} {c_secondWorth : Nat → Int32} {c_wish : Nat → Int32}  {res : Int32} {v1 : Int32} {v2 : Int32} (hf : f_X8_mayStand_18 N c_freed c_firstWorth c_secondWorth c_wish v1 v2 = some res) : GG mu_X8_mayStand κ ω A (QR κ ω A ad (some (.int res)) (w_X8_mayStand c_freed c_firstWorth c_secondWorth c_wish u_askers u_places u_above u_below u_full u_firsts u_whole)) ad 0 0 18 (w_X8_mayStand c_freed c_firstWorth c_secondWorth c_wish u_askers u_places u_above u_below u_full u_firsts u_whole) [some (.ref 0), some (.int v1), some (.int v2), none] [] := by
  refine G_iconst 1 dX8_mayStand_18 (by decide) ?_
  refine G_goto 23 dX8_mayStand_19 (by decide) ?_
  exact g_X8_mayStand_23 hf
def f_X8_mayStand (N : Nat) (c_freed : Int32) (c_firstWorth : Nat → Int32) (c_secondWorth : Nat → Int32) (c_wish : Nat → Int32) (a1 : Int32) (a2 : Int32) : Option (Int32) :=
  (if a2 = 0 then
    f_X8_mayStand_18 N c_freed c_firstWorth c_secondWorth c_wish a1 a2
  else
    (if ((c_freed >>> ((a2 - 1) &&& 31)) &&& (1 : Int32)) = 1 then
      f_X8_mayStand_18 N c_freed c_firstWorth c_secondWorth c_wish a1 a2
    else
      f_X8_mayStand_23 N c_freed c_firstWorth c_secondWorth c_wish a1 a2 0))
set_option maxHeartbeats 4000000 in
set_option maxRecDepth 100000 in
theorem c_X8_mayStand {N : Nat} {c_freed : Int32} {c_firstWorth : Nat → Int32} {c_secondWorth : Nat → Int32} {c_wish : Nat → Int32}  {u_askers : Int32} {u_places : Int32} {u_above : Int64} {u_below : Int64} {u_full : Int32} {u_firsts : Int32} {u_whole : Int64} {a1 : Int32} {a2 : Int32} {res : Int32} (hf : f_X8_mayStand N c_freed c_firstWorth c_secondWorth c_wish a1 a2 = some res) : Con mu_X8_mayStand [.ref 0, .int a1, .int a2] (w_X8_mayStand c_freed c_firstWorth c_secondWorth c_wish u_askers u_places u_above u_below u_full u_firsts u_whole) (some (.int res)) (w_X8_mayStand c_freed c_firstWorth c_secondWorth c_wish u_askers u_places u_above u_below u_full u_firsts u_whole) := by
  refine Con.mk (show plainName RX8 = true by decide +kernel) (leb rfl) (fun κ ω A ad => ?_)
  change GG mu_X8_mayStand κ ω A (QR κ ω A ad (some (.int res)) (w_X8_mayStand c_freed c_firstWorth c_secondWorth c_wish u_askers u_places u_above u_below u_full u_firsts u_whole)) ad 0 0 0 (w_X8_mayStand c_freed c_firstWorth c_secondWorth c_wish u_askers u_places u_above u_below u_full u_firsts u_whole) [some (.ref 0), some (.int a1), some (.int a2), none] []
  refine G_iload_n dX8_mayStand_0 rfl rfl ?_
  refine G_if_eq 18 dX8_mayStand_1 (by decide) (fun h1 => ?_) (fun h1 => ?_)
  · replace hf := ob_t h1 hf
    exact g_X8_mayStand_18 hf
  · replace hf := ob_f h1 hf
    refine G_aload_n dX8_mayStand_4 rfl rfl ?_
    refine G_get (v := .int c_freed) F_X8_177 dX8_mayStand_5 rfl rfl ?_
    refine G_iload_n dX8_mayStand_8 rfl rfl ?_
    refine G_iconst 1 dX8_mayStand_9 (by decide) ?_
    refine G_isub dX8_mayStand_10 ?_
    refine G_ishr dX8_mayStand_11 ?_
    refine G_iconst 1 dX8_mayStand_12 (by decide) ?_
    refine G_iand dX8_mayStand_13 ?_
    refine G_iconst 1 dX8_mayStand_14 (by decide) ?_
    refine G_icmp_ne 22 dX8_mayStand_15 (by decide) (fun h2 => ?_) (fun h2 => ?_)
    · replace hf := ob_f h2 hf
      refine G_iconst 0 dX8_mayStand_22 (by decide) ?_
      exact g_X8_mayStand_23 hf
    · replace hf := ob_t h2 hf
      exact g_X8_mayStand_18 hf
set_option maxRecDepth 20000 in
theorem dX8_standAt_0 : decode cX8_standAt 0 = .ok (.bipush 9, 2) := by decide +kernel
set_option maxRecDepth 20000 in
theorem dX8_standAt_2 : decode cX8_standAt 2 = .ok (.iload_n 1, 1) := by decide +kernel
set_option maxRecDepth 20000 in
theorem dX8_standAt_3 : decode cX8_standAt 3 = .ok (.imul, 1) := by decide +kernel
set_option maxRecDepth 20000 in
theorem dX8_standAt_4 : decode cX8_standAt 4 = .ok (.iload_n 2, 1) := by decide +kernel
set_option maxRecDepth 20000 in
theorem dX8_standAt_5 : decode cX8_standAt 5 = .ok (.iadd, 1) := by decide +kernel
set_option maxRecDepth 20000 in
theorem dX8_standAt_6 : decode cX8_standAt 6 = .ok (.sipush 4096, 3) := by decide +kernel
set_option maxRecDepth 20000 in
theorem dX8_standAt_9 : decode cX8_standAt 9 = .ok (.imul, 1) := by decide +kernel
set_option maxRecDepth 20000 in
theorem dX8_standAt_10 : decode cX8_standAt 10 = .ok (.iload_n 3, 1) := by decide +kernel
set_option maxRecDepth 20000 in
theorem dX8_standAt_11 : decode cX8_standAt 11 = .ok (.iadd, 1) := by decide +kernel
set_option maxRecDepth 20000 in
theorem dX8_standAt_12 : decode cX8_standAt 12 = .ok (.ireturn, 1) := by decide +kernel
def f_X8_standAt (N : Nat)  (a1 : Int32) (a2 : Int32) (a3 : Int32) : Option (Int32) :=
  some ((((9 * a1) + a2) * 4096) + a3)
set_option maxHeartbeats 4000000 in
set_option maxRecDepth 100000 in
theorem c_X8_standAt {N : Nat}   {u_askers : Int32} {u_places : Int32} {u_above : Int64} {u_below : Int64} {u_full : Int32} {u_firsts : Int32} {u_freed : Int32} {u_whole : Int64} {a1 : Int32} {a2 : Int32} {a3 : Int32} {res : Int32} (hf : f_X8_standAt N a1 a2 a3 = some res) : Con mu_X8_standAt [.ref 0, .int a1, .int a2, .int a3] (w_X8_standAt u_askers u_places u_above u_below u_full u_firsts u_freed u_whole) (some (.int res)) (w_X8_standAt u_askers u_places u_above u_below u_full u_firsts u_freed u_whole) := by
  refine Con.mk (show plainName RX8 = true by decide +kernel) (leb rfl) (fun κ ω A ad => ?_)
  change GG mu_X8_standAt κ ω A (QR κ ω A ad (some (.int res)) (w_X8_standAt u_askers u_places u_above u_below u_full u_firsts u_freed u_whole)) ad 0 0 0 (w_X8_standAt u_askers u_places u_above u_below u_full u_firsts u_freed u_whole) [some (.ref 0), some (.int a1), some (.int a2), some (.int a3)] []
  refine G_bipush 9 dX8_standAt_0 (by decide) ?_
  refine G_iload_n dX8_standAt_2 rfl rfl ?_
  refine G_imul dX8_standAt_3 ?_
  refine G_iload_n dX8_standAt_4 rfl rfl ?_
  refine G_iadd dX8_standAt_5 ?_
  refine G_sipush 4096 dX8_standAt_6 (by decide) ?_
  refine G_imul dX8_standAt_9 ?_
  refine G_iload_n dX8_standAt_10 rfl rfl ?_
  refine G_iadd dX8_standAt_11 ?_
  obtain rfl := os hf
  exact G_ireturn dX8_standAt_12 rfl
set_option maxRecDepth 20000 in
theorem dX8_standOn_0 : decode cX8_standOn 0 = .ok (.aload_n 0, 1) := by decide +kernel
set_option maxRecDepth 20000 in
theorem dX8_standOn_1 : decode cX8_standOn 1 = .ok (.iload_n 1, 1) := by decide +kernel
set_option maxRecDepth 20000 in
theorem dX8_standOn_2 : decode cX8_standOn 2 = .ok (.iload_n 2, 1) := by decide +kernel
set_option maxRecDepth 20000 in
theorem dX8_standOn_3 : decode cX8_standOn 3 = .ok (.invokevirtual 194, 3) := by decide +kernel
set_option maxRecDepth 20000 in
theorem dX8_standOn_6 : decode cX8_standOn 6 = .ok (.ifCond .eq 14, 3) := by decide +kernel
set_option maxRecDepth 20000 in
theorem dX8_standOn_9 : decode cX8_standOn 9 = .ok (.aload_n 0, 1) := by decide +kernel
set_option maxRecDepth 20000 in
theorem dX8_standOn_10 : decode cX8_standOn 10 = .ok (.iload_n 1, 1) := by decide +kernel
set_option maxRecDepth 20000 in
theorem dX8_standOn_11 : decode cX8_standOn 11 = .ok (.iload_n 2, 1) := by decide +kernel
set_option maxRecDepth 20000 in
theorem dX8_standOn_12 : decode cX8_standOn 12 = .ok (.iload 4, 2) := by decide +kernel
set_option maxRecDepth 20000 in
theorem dX8_standOn_14 : decode cX8_standOn 14 = .ok (.invokevirtual 120, 3) := by decide +kernel
set_option maxRecDepth 20000 in
theorem dX8_standOn_17 : decode cX8_standOn 17 = .ok (.goto 4, 3) := by decide +kernel
set_option maxRecDepth 20000 in
theorem dX8_standOn_20 : decode cX8_standOn 20 = .ok (.iconst (-1), 1) := by decide +kernel
set_option maxRecDepth 20000 in
theorem dX8_standOn_21 : decode cX8_standOn 21 = .ok (.istore 5, 2) := by decide +kernel
set_option maxRecDepth 20000 in
theorem dX8_standOn_23 : decode cX8_standOn 23 = .ok (.aload_n 0, 1) := by decide +kernel
set_option maxRecDepth 20000 in
theorem dX8_standOn_24 : decode cX8_standOn 24 = .ok (.iload_n 1, 1) := by decide +kernel
set_option maxRecDepth 20000 in
theorem dX8_standOn_25 : decode cX8_standOn 25 = .ok (.iload_n 2, 1) := by decide +kernel
set_option maxRecDepth 20000 in
theorem dX8_standOn_26 : decode cX8_standOn 26 = .ok (.invokevirtual 180, 3) := by decide +kernel
set_option maxRecDepth 20000 in
theorem dX8_standOn_29 : decode cX8_standOn 29 = .ok (.ifCond .eq 9, 3) := by decide +kernel
set_option maxRecDepth 20000 in
theorem dX8_standOn_32 : decode cX8_standOn 32 = .ok (.iload_n 3, 1) := by decide +kernel
set_option maxRecDepth 20000 in
theorem dX8_standOn_33 : decode cX8_standOn 33 = .ok (.iconst 1, 1) := by decide +kernel
set_option maxRecDepth 20000 in
theorem dX8_standOn_34 : decode cX8_standOn 34 = .ok (.isub, 1) := by decide +kernel
set_option maxRecDepth 20000 in
theorem dX8_standOn_35 : decode cX8_standOn 35 = .ok (.goto 4, 3) := by decide +kernel
set_option maxRecDepth 20000 in
theorem dX8_standOn_38 : decode cX8_standOn 38 = .ok (.iload_n 3, 1) := by decide +kernel
set_option maxRecDepth 20000 in
theorem dX8_standOn_39 : decode cX8_standOn 39 = .ok (.istore 6, 2) := by decide +kernel
set_option maxRecDepth 20000 in
theorem dX8_standOn_41 : decode cX8_standOn 41 = .ok (.iload 5, 2) := by decide +kernel
set_option maxRecDepth 20000 in
theorem dX8_standOn_43 : decode cX8_standOn 43 = .ok (.iconst (-1), 1) := by decide +kernel
set_option maxRecDepth 20000 in
theorem dX8_standOn_44 : decode cX8_standOn 44 = .ok (.if_icmp .eq 8, 3) := by decide +kernel
set_option maxRecDepth 20000 in
theorem dX8_standOn_47 : decode cX8_standOn 47 = .ok (.iload 6, 2) := by decide +kernel
set_option maxRecDepth 20000 in
theorem dX8_standOn_49 : decode cX8_standOn 49 = .ok (.ifCond .ge 7, 3) := by decide +kernel
set_option maxRecDepth 20000 in
theorem dX8_standOn_52 : decode cX8_standOn 52 = .ok (.lconst 0, 1) := by decide +kernel
set_option maxRecDepth 20000 in
theorem dX8_standOn_53 : decode cX8_standOn 53 = .ok (.goto 19, 3) := by decide +kernel
set_option maxRecDepth 20000 in
theorem dX8_standOn_56 : decode cX8_standOn 56 = .ok (.aload_n 0, 1) := by decide +kernel
set_option maxRecDepth 20000 in
theorem dX8_standOn_57 : decode cX8_standOn 57 = .ok (.getfield 49, 3) := by decide +kernel
set_option maxRecDepth 20000 in
theorem dX8_standOn_60 : decode cX8_standOn 60 = .ok (.aload_n 0, 1) := by decide +kernel
set_option maxRecDepth 20000 in
theorem dX8_standOn_61 : decode cX8_standOn 61 = .ok (.iload_n 1, 1) := by decide +kernel
set_option maxRecDepth 20000 in
theorem dX8_standOn_62 : decode cX8_standOn 62 = .ok (.iconst 1, 1) := by decide +kernel
set_option maxRecDepth 20000 in
theorem dX8_standOn_63 : decode cX8_standOn 63 = .ok (.iadd, 1) := by decide +kernel
set_option maxRecDepth 20000 in
theorem dX8_standOn_64 : decode cX8_standOn 64 = .ok (.iload 6, 2) := by decide +kernel
set_option maxRecDepth 20000 in
theorem dX8_standOn_66 : decode cX8_standOn 66 = .ok (.iload 5, 2) := by decide +kernel
set_option maxRecDepth 20000 in
theorem dX8_standOn_68 : decode cX8_standOn 68 = .ok (.invokevirtual 187, 3) := by decide +kernel
set_option maxRecDepth 20000 in
theorem dX8_standOn_71 : decode cX8_standOn 71 = .ok (.laload, 1) := by decide +kernel
set_option maxRecDepth 20000 in
theorem dX8_standOn_72 : decode cX8_standOn 72 = .ok (.lreturn, 1) := by decide +kernel
def f_X8_standOn_39 (N : Nat) (c_places : Int32) (c_freed : Int32) (c_firstWorth : Nat → Int32) (c_seats : Nat → Int32) (c_secondWorth : Nat → Int32) (c_stand : Nat → Int64) (c_weight : Nat → Int32) (c_wish : Nat → Int32) (v1 : Int32) (v5 : Int32) (s0 : Int32) : Option (Int64) :=
    (if v5 = (-1 : Int32) then
      some 0
    else
      (if 0 ≤ s0 then
        (f_X8_standAt N (v1 + 1) s0 v5).bind fun r3 =>
        (rdL 331776 c_stand r3).bind fun t5 =>
        some t5
      else
        some 0))
set_option maxHeartbeats 4000000 in
set_option maxRecDepth 100000 in
theorem g_X8_standOn_39 {κ : KC} {ω : KW} {A : Nat → Prop} {ad : Nat → Nat} {u_askers : Int32} {u_above : Int64} {u_below : Int64} {u_full : Int32} {u_firsts : Int32} {u_whole : Int64} {N : Nat} {c_places : Int32} {c_freed : Int32} {c_firstWorth : Nat → Int32} {c_seats : Nat → Int32} {c_secondWorth : Nat → Int32} {c_stand : Nat → Int64} {c_weight : Nat → Int32} {c_wish : Nat → Int32}  {res : Int64} {v1 : Int32} {v5 : Int32} {s0 : Int32} (hf : f_X8_standOn_39 N c_places c_freed c_firstWorth c_seats c_secondWorth c_stand c_weight c_wish v1 v5 s0 = some res) : GG mu_X8_standOn κ ω A (QR κ ω A ad (some (.long res)) (w_X8_standOn c_places c_freed c_firstWorth c_seats c_secondWorth c_stand c_weight c_wish u_askers u_above u_below u_full u_firsts u_whole)) ad 0 0 39 (w_X8_standOn c_places c_freed c_firstWorth c_seats c_secondWorth c_stand c_weight c_wish u_askers u_above u_below u_full u_firsts u_whole) [some (.ref 0), some (.int v1), none, none, none, some (.int v5), none] [.int s0] := by
  refine G_istore dX8_standOn_39 (ltb rfl) ?_
  change GG _ _ _ _ _ _ _ _ _ _ [some (.ref 0), some (.int v1), none, none, none, some (.int v5), some (.int s0)] _
  refine G_iload dX8_standOn_41 rfl ?_
  refine G_iconst (-1 : Int32) dX8_standOn_43 (by decide) ?_
  refine G_icmp_eq 52 dX8_standOn_44 (by decide) (fun h1 => ?_) (fun h1 => ?_)
  · replace hf := ob_t h1 hf
    refine G_lconst 0 dX8_standOn_52 (by decide) ?_
    refine G_goto 72 dX8_standOn_53 (by decide) ?_
    obtain rfl := os hf
    exact G_lreturn dX8_standOn_72 rfl
  · replace hf := ob_f h1 hf
    refine G_iload dX8_standOn_47 rfl ?_
    refine G_if_ge 56 dX8_standOn_49 (by decide) (fun h2 => ?_) (fun h2 => ?_)
    · replace hf := ob_t h2 hf
      refine G_aload_n dX8_standOn_56 rfl rfl ?_
      refine G_get (v := .ref 4) F_X8_49 dX8_standOn_57 rfl rfl ?_
      refine G_aload_n dX8_standOn_60 rfl rfl ?_
      refine G_iload_n dX8_standOn_61 rfl rfl ?_
      refine G_iconst 1 dX8_standOn_62 (by decide) ?_
      refine G_iadd dX8_standOn_63 ?_
      refine G_iload dX8_standOn_64 rfl ?_
      refine G_iload dX8_standOn_66 rfl ?_
      obtain ⟨r3, hc4, hf⟩ := ob hf
      refine G_callV (μ2 := mu_X8_standAt) (As := [.int (v1 + 1), .int s0, .int v5]) (w2 := (w_X8_standOn c_places c_freed c_firstWorth c_seats c_secondWorth c_stand c_weight c_wish u_askers u_above u_below u_full u_firsts u_whole)) (wc := (w_X8_standAt u_askers c_places u_above u_below u_full u_firsts c_freed u_whole)) (wc2 := (w_X8_standAt u_askers c_places u_above u_below u_full u_firsts c_freed u_whole)) (rest := [.ref 4]) (rv := [.int r3]) [0] [2, 6, 1000, 5, 1001, 1002, 1003, 1004, 1005, 1006, 1, 3, 4, 1007, 1008, 1009, 1010, 1011, 1012, 1013, 1014] [1, 2, 3, 4, 5, 6] [6, 0, 1, 2, 3, 4, 5] (c_X8_standAt hc4) cw_X8_standAt m_X8_187 dX8_standOn_68 rfl ⟨leb rfl, leb rfl⟩ ⟨rfl, rfl⟩ rfl ⟨_, rfl, rfl⟩ (Fit.mk rfl rfl rfl) rfl (leb rfl) (ROsub.nil rfl rfl) rfl ?_
      change GG _ _ _ _ _ _ _ _ _ (w_X8_standOn c_places c_freed c_firstWorth c_seats c_secondWorth c_stand c_weight c_wish u_askers u_above u_below u_full u_firsts u_whole) [some (.ref 0), some (.int v1), none, none, none, some (.int v5), some (.int s0)] [.int r3, .ref 4]
      obtain ⟨t5, ht5, hf⟩ := ob hf
      refine G_lald dX8_standOn_71 rfl ht5 ?_
      obtain rfl := os hf
      exact G_lreturn dX8_standOn_72 rfl
    · replace hf := ob_f h2 hf
      refine G_lconst 0 dX8_standOn_52 (by decide) ?_
      refine G_goto 72 dX8_standOn_53 (by decide) ?_
      obtain rfl := os hf
      exact G_lreturn dX8_standOn_72 rfl
def f_X8_standOn_21 (N : Nat) (c_places : Int32) (c_freed : Int32) (c_firstWorth : Nat → Int32) (c_seats : Nat → Int32) (c_secondWorth : Nat → Int32) (c_stand : Nat → Int64) (c_weight : Nat → Int32) (c_wish : Nat → Int32) (v1 : Int32) (v2 : Int32) (v3 : Int32) (s0 : Int32) : Option (Int64) :=
    (f_X8_isFirst N c_firstWorth c_wish v1 v2).bind fun r1 =>
    (if r1 = 0 then
      f_X8_standOn_39 N c_places c_freed c_firstWorth c_seats c_secondWorth c_stand c_weight c_wish v1 s0 v3
    else
      f_X8_standOn_39 N c_places c_freed c_firstWorth c_seats c_secondWorth c_stand c_weight c_wish v1 s0 (v3 - 1))
set_option maxHeartbeats 4000000 in
set_option maxRecDepth 100000 in
theorem g_X8_standOn_21 {κ : KC} {ω : KW} {A : Nat → Prop} {ad : Nat → Nat} {u_askers : Int32} {u_above : Int64} {u_below : Int64} {u_full : Int32} {u_firsts : Int32} {u_whole : Int64} {N : Nat} {c_places : Int32} {c_freed : Int32} {c_firstWorth : Nat → Int32} {c_seats : Nat → Int32} {c_secondWorth : Nat → Int32} {c_stand : Nat → Int64} {c_weight : Nat → Int32} {c_wish : Nat → Int32}  {res : Int64} {v1 : Int32} {v2 : Int32} {v3 : Int32} {s0 : Int32} (hf : f_X8_standOn_21 N c_places c_freed c_firstWorth c_seats c_secondWorth c_stand c_weight c_wish v1 v2 v3 s0 = some res) : GG mu_X8_standOn κ ω A (QR κ ω A ad (some (.long res)) (w_X8_standOn c_places c_freed c_firstWorth c_seats c_secondWorth c_stand c_weight c_wish u_askers u_above u_below u_full u_firsts u_whole)) ad 0 0 21 (w_X8_standOn c_places c_freed c_firstWorth c_seats c_secondWorth c_stand c_weight c_wish u_askers u_above u_below u_full u_firsts u_whole) [some (.ref 0), some (.int v1), some (.int v2), some (.int v3), none, none, none] [.int s0] := by
  refine G_istore dX8_standOn_21 (ltb rfl) ?_
  change GG _ _ _ _ _ _ _ _ _ _ [some (.ref 0), some (.int v1), some (.int v2), some (.int v3), none, some (.int s0), none] _
  refine G_aload_n dX8_standOn_23 rfl rfl ?_
  refine G_iload_n dX8_standOn_24 rfl rfl ?_
  refine G_iload_n dX8_standOn_25 rfl rfl ?_
  obtain ⟨r1, hc2, hf⟩ := ob hf
  refine G_callV (μ2 := mu_X8_isFirst) (As := [.int v1, .int v2]) (w2 := (w_X8_standOn c_places c_freed c_firstWorth c_seats c_secondWorth c_stand c_weight c_wish u_askers u_above u_below u_full u_firsts u_whole)) (wc := (w_X8_isFirst c_firstWorth c_wish u_askers c_places u_above u_below u_full u_firsts c_freed u_whole)) (wc2 := (w_X8_isFirst c_firstWorth c_wish u_askers c_places u_above u_below u_full u_firsts c_freed u_whole)) (rest := []) (rv := [.int r1]) [0, 1, 6] [2, 1000, 5, 1001, 1002, 1003, 1004, 1005, 1006, 3, 4, 1007, 1008, 1009, 1010, 1011, 1012, 1013, 1014] [2, 3, 4, 5] [4, 5, 0, 1, 2, 3, 6] (c_X8_isFirst hc2) cw_X8_isFirst m_X8_180 dX8_standOn_26 rfl ⟨leb rfl, leb rfl⟩ ⟨rfl, rfl⟩ rfl ⟨_, rfl, rfl⟩ (Fit.mk rfl rfl rfl) rfl (leb rfl) (ROsub.nil rfl rfl) rfl ?_
  change GG _ _ _ _ _ _ _ _ _ (w_X8_standOn c_places c_freed c_firstWorth c_seats c_secondWorth c_stand c_weight c_wish u_askers u_above u_below u_full u_firsts u_whole) [some (.ref 0), some (.int v1), some (.int v2), some (.int v3), none, some (.int s0), none] [.int r1]
  refine G_if_eq 38 dX8_standOn_29 (by decide) (fun h3 => ?_) (fun h3 => ?_)
  · replace hf := ob_t h3 hf
    refine G_iload_n dX8_standOn_38 rfl rfl ?_
    refine GG.sb (lv2 := [some (.ref 0), some (.int v1), none, none, none, some (.int s0), none]) ?_ (lvS_v rfl (lvS_v rfl (lvS_n (lvS_n (lvS_n (lvS_v rfl (lvS_n (lvS_e))))))))
    exact g_X8_standOn_39 hf
  · replace hf := ob_f h3 hf
    refine G_iload_n dX8_standOn_32 rfl rfl ?_
    refine G_iconst 1 dX8_standOn_33 (by decide) ?_
    refine G_isub dX8_standOn_34 ?_
    refine G_goto 39 dX8_standOn_35 (by decide) ?_
    refine GG.sb (lv2 := [some (.ref 0), some (.int v1), none, none, none, some (.int s0), none]) ?_ (lvS_v rfl (lvS_v rfl (lvS_n (lvS_n (lvS_n (lvS_v rfl (lvS_n (lvS_e))))))))
    exact g_X8_standOn_39 hf
def f_X8_standOn (N : Nat) (c_places : Int32) (c_freed : Int32) (c_firstWorth : Nat → Int32) (c_seats : Nat → Int32) (c_secondWorth : Nat → Int32) (c_stand : Nat → Int64) (c_weight : Nat → Int32) (c_wish : Nat → Int32) (a1 : Int32) (a2 : Int32) (a3 : Int32) (a4 : Int32) : Option (Int64) :=
  (f_X8_mayStand N c_freed c_firstWorth c_secondWorth c_wish a1 a2).bind fun r1 =>
  (if r1 = 0 then
    f_X8_standOn_21 N c_places c_freed c_firstWorth c_seats c_secondWorth c_stand c_weight c_wish a1 a2 a3 (-1 : Int32)
  else
    (f_X8_takes N c_places c_seats c_weight c_wish a1 a2 a4).bind fun r4 =>
    f_X8_standOn_21 N c_places c_freed c_firstWorth c_seats c_secondWorth c_stand c_weight c_wish a1 a2 a3 r4)
set_option maxHeartbeats 4000000 in
set_option maxRecDepth 100000 in
theorem c_X8_standOn {N : Nat} {c_places : Int32} {c_freed : Int32} {c_firstWorth : Nat → Int32} {c_seats : Nat → Int32} {c_secondWorth : Nat → Int32} {c_stand : Nat → Int64} {c_weight : Nat → Int32} {c_wish : Nat → Int32}  {u_askers : Int32} {u_above : Int64} {u_below : Int64} {u_full : Int32} {u_firsts : Int32} {u_whole : Int64} {a1 : Int32} {a2 : Int32} {a3 : Int32} {a4 : Int32} {res : Int64} (hf : f_X8_standOn N c_places c_freed c_firstWorth c_seats c_secondWorth c_stand c_weight c_wish a1 a2 a3 a4 = some res) : Con mu_X8_standOn [.ref 0, .int a1, .int a2, .int a3, .int a4] (w_X8_standOn c_places c_freed c_firstWorth c_seats c_secondWorth c_stand c_weight c_wish u_askers u_above u_below u_full u_firsts u_whole) (some (.long res)) (w_X8_standOn c_places c_freed c_firstWorth c_seats c_secondWorth c_stand c_weight c_wish u_askers u_above u_below u_full u_firsts u_whole) := by
  refine Con.mk (show plainName RX8 = true by decide +kernel) (leb rfl) (fun κ ω A ad => ?_)
  change GG mu_X8_standOn κ ω A (QR κ ω A ad (some (.long res)) (w_X8_standOn c_places c_freed c_firstWorth c_seats c_secondWorth c_stand c_weight c_wish u_askers u_above u_below u_full u_firsts u_whole)) ad 0 0 0 (w_X8_standOn c_places c_freed c_firstWorth c_seats c_secondWorth c_stand c_weight c_wish u_askers u_above u_below u_full u_firsts u_whole) [some (.ref 0), some (.int a1), some (.int a2), some (.int a3), some (.int a4), none, none] []
  refine G_aload_n dX8_standOn_0 rfl rfl ?_
  refine G_iload_n dX8_standOn_1 rfl rfl ?_
  refine G_iload_n dX8_standOn_2 rfl rfl ?_
  obtain ⟨r1, hc2, hf⟩ := ob hf
  refine G_callV (μ2 := mu_X8_mayStand) (As := [.int a1, .int a2]) (w2 := (w_X8_standOn c_places c_freed c_firstWorth c_seats c_secondWorth c_stand c_weight c_wish u_askers u_above u_below u_full u_firsts u_whole)) (wc := (w_X8_mayStand c_freed c_firstWorth c_secondWorth c_wish u_askers c_places u_above u_below u_full u_firsts u_whole)) (wc2 := (w_X8_mayStand c_freed c_firstWorth c_secondWorth c_wish u_askers c_places u_above u_below u_full u_firsts u_whole)) (rest := []) (rv := [.int r1]) [0, 1, 3, 6] [2, 1000, 5, 1001, 1002, 1003, 1004, 1005, 1006, 4, 1007, 1008, 1009, 1010, 1011, 1012, 1013, 1014] [2, 4, 5] [3, 4, 0, 5, 1, 2, 6] (c_X8_mayStand hc2) cw_X8_mayStand m_X8_194 dX8_standOn_3 rfl ⟨leb rfl, leb rfl⟩ ⟨rfl, rfl⟩ rfl ⟨_, rfl, rfl⟩ (Fit.mk rfl rfl rfl) rfl (leb rfl) (ROsub.nil rfl rfl) rfl ?_
  change GG _ _ _ _ _ _ _ _ _ (w_X8_standOn c_places c_freed c_firstWorth c_seats c_secondWorth c_stand c_weight c_wish u_askers u_above u_below u_full u_firsts u_whole) [some (.ref 0), some (.int a1), some (.int a2), some (.int a3), some (.int a4), none, none] [.int r1]
  refine G_if_eq 20 dX8_standOn_6 (by decide) (fun h3 => ?_) (fun h3 => ?_)
  · replace hf := ob_t h3 hf
    refine G_iconst (-1 : Int32) dX8_standOn_20 (by decide) ?_
    refine GG.sb (lv2 := [some (.ref 0), some (.int a1), some (.int a2), some (.int a3), none, none, none]) ?_ (lvS_v rfl (lvS_v rfl (lvS_v rfl (lvS_v rfl (lvS_n (lvS_n (lvS_n (lvS_e))))))))
    exact g_X8_standOn_21 hf
  · replace hf := ob_f h3 hf
    refine G_aload_n dX8_standOn_9 rfl rfl ?_
    refine G_iload_n dX8_standOn_10 rfl rfl ?_
    refine G_iload_n dX8_standOn_11 rfl rfl ?_
    refine G_iload dX8_standOn_12 rfl ?_
    obtain ⟨r4, hc5, hf⟩ := ob hf
    refine G_callV (μ2 := mu_X8_takes) (As := [.int a1, .int a2, .int a4]) (w2 := (w_X8_standOn c_places c_freed c_firstWorth c_seats c_secondWorth c_stand c_weight c_wish u_askers u_above u_below u_full u_firsts u_whole)) (wc := (w_X8_takes c_places c_seats c_weight c_wish u_askers u_above u_below u_full u_firsts c_freed u_whole)) (wc2 := (w_X8_takes c_places c_seats c_weight c_wish u_askers u_above u_below u_full u_firsts c_freed u_whole)) (rest := []) (rv := [.int r4]) [0, 2, 5, 6] [1000, 1001, 1002, 1003, 1004, 1005, 1006, 1, 3, 4, 1007, 1008, 1009, 1010, 1011, 1012, 1013, 1014] [1, 3, 4] [3, 0, 4, 1, 2, 5, 6] (c_X8_takes hc5) cw_X8_takes m_X8_120 dX8_standOn_14 rfl ⟨leb rfl, leb rfl⟩ ⟨rfl, rfl⟩ rfl ⟨_, rfl, rfl⟩ (Fit.mk rfl rfl rfl) rfl (leb rfl) (ROsub.nil rfl rfl) rfl ?_
    change GG _ _ _ _ _ _ _ _ _ (w_X8_standOn c_places c_freed c_firstWorth c_seats c_secondWorth c_stand c_weight c_wish u_askers u_above u_below u_full u_firsts u_whole) [some (.ref 0), some (.int a1), some (.int a2), some (.int a3), some (.int a4), none, none] [.int r4]
    refine G_goto 21 dX8_standOn_17 (by decide) ?_
    refine GG.sb (lv2 := [some (.ref 0), some (.int a1), some (.int a2), some (.int a3), none, none, none]) ?_ (lvS_v rfl (lvS_v rfl (lvS_v rfl (lvS_v rfl (lvS_n (lvS_n (lvS_n (lvS_e))))))))
    exact g_X8_standOn_21 hf
