/-! printed by wip/gen: WishPlacesModel, part 0 -/
set_option maxRecDepth 100000 in
theorem uX8 : ∀ w ∈ u_ws RX8 TX8 29, w ∈ ALLW := by decide +kernel
theorem F_X8_7 : FLD RX8 7 8 2 (.array .int) true := ⟨RX8, TX8, 29, tyX8, rfl, by decide, uX8, all_of 775 (by decide +kernel) (by decide +kernel), tyX8_ok, rfl, nmX8, rfl⟩
theorem F_X8_13 : FLD RX8 13 8 3 (.array .int) true := ⟨RX8, TX8, 29, tyX8, rfl, by decide, uX8, all_of 776 (by decide +kernel) (by decide +kernel), tyX8_ok, rfl, nmX8, rfl⟩
theorem F_X8_16 : FLD RX8 16 8 4 (.array .int) true := ⟨RX8, TX8, 29, tyX8, rfl, by decide, uX8, all_of 777 (by decide +kernel) (by decide +kernel), tyX8_ok, rfl, nmX8, rfl⟩
theorem F_X8_19 : FLD RX8 19 8 7 (.array .int) true := ⟨RX8, TX8, 29, tyX8, rfl, by decide, uX8, all_of 780 (by decide +kernel) (by decide +kernel), tyX8_ok, rfl, nmX8, rfl⟩
theorem F_X8_23 : FLD RX8 23 8 9 (.array .long) true := ⟨RX8, TX8, 29, tyX8, rfl, by decide, uX8, all_of 782 (by decide +kernel) (by decide +kernel), tyX8_ok, rfl, nmX8, rfl⟩
theorem F_X8_27 : FLD RX8 27 8 10 (.array .int) true := ⟨RX8, TX8, 29, tyX8, rfl, by decide, uX8, all_of 783 (by decide +kernel) (by decide +kernel), tyX8_ok, rfl, nmX8, rfl⟩
theorem F_X8_30 : FLD RX8 30 8 11 (.array .long) true := ⟨RX8, TX8, 29, tyX8, rfl, by decide, uX8, all_of 784 (by decide +kernel) (by decide +kernel), tyX8_ok, rfl, nmX8, rfl⟩
theorem F_X8_33 : FLD RX8 33 8 12 (.array .long) true := ⟨RX8, TX8, 29, tyX8, rfl, by decide, uX8, all_of 785 (by decide +kernel) (by decide +kernel), tyX8_ok, rfl, nmX8, rfl⟩
theorem F_X8_78 : FLD RX8 78 8 6 .long false := ⟨RX8, TX8, 29, tyX8, rfl, by decide, uX8, all_of 779 (by decide +kernel) (by decide +kernel), tyX8_ok, rfl, nmX8, rfl⟩
theorem F_X8_86 : FLD RX8 86 8 5 .long false := ⟨RX8, TX8, 29, tyX8, rfl, by decide, uX8, all_of 778 (by decide +kernel) (by decide +kernel), tyX8_ok, rfl, nmX8, rfl⟩
theorem F_X8_89 : FLD RX8 89 8 0 .int false := ⟨RX8, TX8, 29, tyX8, rfl, by decide, uX8, all_of 773 (by decide +kernel) (by decide +kernel), tyX8_ok, rfl, nmX8, rfl⟩
theorem F_X8_97 : FLD RX8 97 8 1 .int false := ⟨RX8, TX8, 29, tyX8, rfl, by decide, uX8, all_of 774 (by decide +kernel) (by decide +kernel), tyX8_ok, rfl, nmX8, rfl⟩
theorem F_X8_114 : FLD RX8 114 8 8 .int false := ⟨RX8, TX8, 29, tyX8, rfl, by decide, uX8, all_of 781 (by decide +kernel) (by decide +kernel), tyX8_ok, rfl, nmX8, rfl⟩
theorem m_X8_82 : Cond.methodLink RX8 82 yX8_divisor ∈ ALLW := all_of 1007 (by decide +kernel) (by decide +kernel)
theorem m_X8_93 : Cond.methodLink RX8 93 yX8_in ∈ ALLW := all_of 870 (by decide +kernel) (by decide +kernel)
theorem m_X8_100 : Cond.methodLink RX8 100 yX8_isPlace ∈ ALLW := all_of 877 (by decide +kernel) (by decide +kernel)
theorem m_X8_104 : Cond.methodLink RX8 104 yX8_had ∈ ALLW := all_of 881 (by decide +kernel) (by decide +kernel)
theorem m_X8_108 : Cond.methodLink RX8 108 yX8_isAsker ∈ ALLW := all_of 889 (by decide +kernel) (by decide +kernel)
theorem m_X8_111 : Cond.methodLink RX8 111 yX8_worthOf ∈ ALLW := all_of 897 (by decide +kernel) (by decide +kernel)
theorem m_X8_117 : Cond.methodLink RX8 117 yX8_findWeights ∈ ALLW := all_of 909 (by decide +kernel) (by decide +kernel)
theorem m_X8_120 : Cond.methodLink RX8 120 yX8_takes ∈ ALLW := all_of 913 (by decide +kernel) (by decide +kernel)
theorem m_X8_124 : Cond.methodLink RX8 124 yX8_findCount ∈ ALLW := all_of 905 (by decide +kernel) (by decide +kernel)
theorem m_X8_127 : Cond.methodLink RX8 127 yX8_isTold ∈ ALLW := all_of 925 (by decide +kernel) (by decide +kernel)
theorem m_X8_134 : Cond.methodLink RX8 134 yX8_power ∈ ALLW := all_of 940 (by decide +kernel) (by decide +kernel)
theorem k_X8_130 : Cond.constantLong RX8 130 1000000000000000000 ∈ ALLW := all_of 936 (by decide +kernel) (by decide +kernel)
theorem k_X8_132 : Cond.constantLong RX8 132 9 ∈ ALLW := all_of 943 (by decide +kernel) (by decide +kernel)
theorem k_X8_138 : Cond.constantLong RX8 138 1000 ∈ ALLW := all_of 944 (by decide +kernel) (by decide +kernel)
abbrev mu_X8_in : KM := (yX8_in, cX8_in, 3, (some .boolean), { frames := 0, cells := 0, slots := 0, locals := 0 }, [], [])
theorem cw_X8_in : CWs mu_X8_in 3 := ⟨⟨all_of 872 (by decide +kernel) (by decide +kernel), all_of 9 (by decide +kernel) (by decide +kernel), by decide +kernel, by decide +kernel, by decide +kernel⟩, all_of 871 (by decide +kernel) (by decide +kernel)⟩
abbrev mu_X8_divisor : KM := (yX8_divisor, cX8_divisor, 10, (some .long), { frames := 0, cells := 0, slots := 0, locals := 0 }, [], [])
theorem cw_X8_divisor : CWs mu_X8_divisor 2 := ⟨⟨all_of 1009 (by decide +kernel) (by decide +kernel), all_of 9 (by decide +kernel) (by decide +kernel), by decide +kernel, by decide +kernel, by decide +kernel⟩, all_of 1008 (by decide +kernel) (by decide +kernel)⟩
abbrev mu_X8_tells : KM := (yX8_tells, cX8_tells, 7, (some .int), { frames := 1, cells := 0, slots := 0, locals := 29 }, [], [])
def w_X8_tells (c_above : Int64) (c_below : Int64) (u_askers : Int32) (u_places : Int32) (u_full : Int32) (u_firsts : Int32) (u_freed : Int32) (u_whole : Int64) : List mE := [.inr (8, [.int u_askers, .int u_places, .ref 1000, .ref 1001, .ref 1002, .long c_above, .long c_below, .ref 1003, .int u_full, .ref 1004, .ref 1005, .ref 1006, .ref 1007, .ref 1008, .ref 1009, .int u_firsts, .ref 1010, .ref 1011, .int u_freed, .ref 1012, .ref 1013, .ref 1014, .ref 1015, .ref 1016, .ref 1017, .long u_whole, .ref 1018, .ref 1019, .ref 1020])]
theorem cw_X8_tells : CWv mu_X8_tells 2 := ⟨⟨all_of 1006 (by decide +kernel) (by decide +kernel), all_of 9 (by decide +kernel) (by decide +kernel), by decide +kernel, by decide +kernel, by decide +kernel⟩, all_of 1005 (by decide +kernel) (by decide +kernel), all_pr 58 (by decide +kernel) (by decide +kernel)⟩
abbrev mu_X8_isAsker : KM := (yX8_isAsker, cX8_isAsker, 2, (some .boolean), { frames := 1, cells := 0, slots := 0, locals := 22 }, [], [])
def w_X8_isAsker (c_askers : Int32) (u_places : Int32) (u_above : Int64) (u_below : Int64) (u_full : Int32) (u_firsts : Int32) (u_freed : Int32) (u_whole : Int64) : List mE := [.inr (8, [.int c_askers, .int u_places, .ref 1000, .ref 1001, .ref 1002, .long u_above, .long u_below, .ref 1003, .int u_full, .ref 1004, .ref 1005, .ref 1006, .ref 1007, .ref 1008, .ref 1009, .int u_firsts, .ref 1010, .ref 1011, .int u_freed, .ref 1012, .ref 1013, .ref 1014, .ref 1015, .ref 1016, .ref 1017, .long u_whole, .ref 1018, .ref 1019, .ref 1020])]
theorem cw_X8_isAsker : CWv mu_X8_isAsker 1 := ⟨⟨all_of 892 (by decide +kernel) (by decide +kernel), all_of 9 (by decide +kernel) (by decide +kernel), by decide +kernel, by decide +kernel, by decide +kernel⟩, all_of 891 (by decide +kernel) (by decide +kernel), all_pr 46 (by decide +kernel) (by decide +kernel)⟩
abbrev mu_X8_isPlace : KM := (yX8_isPlace, cX8_isPlace, 2, (some .boolean), { frames := 1, cells := 0, slots := 0, locals := 22 }, [], [])
def w_X8_isPlace (c_places : Int32) (u_askers : Int32) (u_above : Int64) (u_below : Int64) (u_full : Int32) (u_firsts : Int32) (u_freed : Int32) (u_whole : Int64) : List mE := [.inr (8, [.int u_askers, .int c_places, .ref 1000, .ref 1001, .ref 1002, .long u_above, .long u_below, .ref 1003, .int u_full, .ref 1004, .ref 1005, .ref 1006, .ref 1007, .ref 1008, .ref 1009, .int u_firsts, .ref 1010, .ref 1011, .int u_freed, .ref 1012, .ref 1013, .ref 1014, .ref 1015, .ref 1016, .ref 1017, .long u_whole, .ref 1018, .ref 1019, .ref 1020])]
theorem cw_X8_isPlace : CWv mu_X8_isPlace 1 := ⟨⟨all_of 880 (by decide +kernel) (by decide +kernel), all_of 9 (by decide +kernel) (by decide +kernel), by decide +kernel, by decide +kernel, by decide +kernel⟩, all_of 879 (by decide +kernel) (by decide +kernel), all_pr 44 (by decide +kernel) (by decide +kernel)⟩
abbrev mu_X8_isTold : KM := (yX8_isTold, cX8_isTold, 1, (some .boolean), { frames := 1, cells := 0, slots := 0, locals := 22 }, [], [])
theorem cw_X8_isTold : CWs mu_X8_isTold 1 := ⟨⟨all_of 927 (by decide +kernel) (by decide +kernel), all_of 9 (by decide +kernel) (by decide +kernel), by decide +kernel, by decide +kernel, by decide +kernel⟩, all_of 926 (by decide +kernel) (by decide +kernel)⟩
abbrev mu_X8_asker : KM := (yX8_asker, cX8_asker, 1, (some .int), { frames := 0, cells := 0, slots := 0, locals := 0 }, [], [])
def w_X8_asker (c_askers : Int32) (u_places : Int32) (u_above : Int64) (u_below : Int64) (u_full : Int32) (u_firsts : Int32) (u_freed : Int32) (u_whole : Int64) : List mE := [.inr (8, [.int c_askers, .int u_places, .ref 1000, .ref 1001, .ref 1002, .long u_above, .long u_below, .ref 1003, .int u_full, .ref 1004, .ref 1005, .ref 1006, .ref 1007, .ref 1008, .ref 1009, .int u_firsts, .ref 1010, .ref 1011, .int u_freed, .ref 1012, .ref 1013, .ref 1014, .ref 1015, .ref 1016, .ref 1017, .long u_whole, .ref 1018, .ref 1019, .ref 1020])]
theorem cw_X8_asker : CWv mu_X8_asker 0 := ⟨⟨all_of 865 (by decide +kernel) (by decide +kernel), all_of 9 (by decide +kernel) (by decide +kernel), by decide +kernel, by decide +kernel, by decide +kernel⟩, all_of 863 (by decide +kernel) (by decide +kernel), all_of 864 (by decide +kernel) (by decide +kernel)⟩
abbrev mu_X8_place : KM := (yX8_place, cX8_place, 2, (some .int), { frames := 1, cells := 0, slots := 0, locals := 22 }, [], [])
def w_X8_place (c_places : Int32) (c_seats : Nat → Int32) (u_askers : Int32) (u_above : Int64) (u_below : Int64) (u_full : Int32) (u_firsts : Int32) (u_freed : Int32) (u_whole : Int64) : List mE := [.inr (8, [.int u_askers, .int c_places, .ref 1, .ref 1000, .ref 1001, .long u_above, .long u_below, .ref 1002, .int u_full, .ref 1003, .ref 1004, .ref 1005, .ref 1006, .ref 1007, .ref 1008, .int u_firsts, .ref 1009, .ref 1010, .int u_freed, .ref 1011, .ref 1012, .ref 1013, .ref 1014, .ref 1015, .ref 1016, .long u_whole, .ref 1017, .ref 1018, .ref 1019]), .inl (0, 6, .inl c_seats)]
theorem cw_X8_place : CWv mu_X8_place 1 := ⟨⟨all_of 869 (by decide +kernel) (by decide +kernel), all_of 9 (by decide +kernel) (by decide +kernel), by decide +kernel, by decide +kernel, by decide +kernel⟩, all_of 867 (by decide +kernel) (by decide +kernel), all_of 868 (by decide +kernel) (by decide +kernel)⟩
abbrev mu_X8_had : KM := (yX8_had, cX8_had, 5, (some .int), { frames := 0, cells := 0, slots := 0, locals := 0 }, [], [])
def w_X8_had (c_askers : Int32) (c_told : Nat → Int32) (u_places : Int32) (u_above : Int64) (u_below : Int64) (u_full : Int32) (u_firsts : Int32) (u_freed : Int32) (u_whole : Int64) : List mE := [.inr (8, [.int c_askers, .int u_places, .ref 1000, .ref 1001, .ref 1, .long u_above, .long u_below, .ref 1002, .int u_full, .ref 1003, .ref 1004, .ref 1005, .ref 1006, .ref 1007, .ref 1008, .int u_firsts, .ref 1009, .ref 1010, .int u_freed, .ref 1011, .ref 1012, .ref 1013, .ref 1014, .ref 1015, .ref 1016, .long u_whole, .ref 1017, .ref 1018, .ref 1019]), .inl (0, 32, .inl c_told)]
theorem cw_X8_had : CWv mu_X8_had 2 := ⟨⟨all_of 884 (by decide +kernel) (by decide +kernel), all_of 9 (by decide +kernel) (by decide +kernel), by decide +kernel, by decide +kernel, by decide +kernel⟩, all_of 883 (by decide +kernel) (by decide +kernel), all_pr 45 (by decide +kernel) (by decide +kernel)⟩
abbrev mu_X8_seats : KM := (yX8_seats, cX8_seats, 4, (some .int), { frames := 2, cells := 0, slots := 0, locals := 43 }, [], [])
def w_X8_seats (c_askers : Int32) (c_places : Int32) (c_seats : Nat → Int32) (c_told : Nat → Int32) (u_above : Int64) (u_below : Int64) (u_full : Int32) (u_firsts : Int32) (u_freed : Int32) (u_whole : Int64) : List mE := [.inr (8, [.int c_askers, .int c_places, .ref 1, .ref 1000, .ref 2, .long u_above, .long u_below, .ref 1001, .int u_full, .ref 1002, .ref 1003, .ref 1004, .ref 1005, .ref 1006, .ref 1007, .int u_firsts, .ref 1008, .ref 1009, .int u_freed, .ref 1010, .ref 1011, .ref 1012, .ref 1013, .ref 1014, .ref 1015, .long u_whole, .ref 1016, .ref 1017, .ref 1018]), .inl (0, 6, .inl c_seats), .inl (0, 32, .inl c_told)]
theorem cw_X8_seats : CWv mu_X8_seats 2 := ⟨⟨all_of 876 (by decide +kernel) (by decide +kernel), all_of 9 (by decide +kernel) (by decide +kernel), by decide +kernel, by decide +kernel, by decide +kernel⟩, all_of 874 (by decide +kernel) (by decide +kernel), all_of 875 (by decide +kernel) (by decide +kernel)⟩
abbrev mu_X8_wish : KM := (yX8_wish, cX8_wish, 6, (some .int), { frames := 2, cells := 0, slots := 0, locals := 43 }, [], [])
def w_X8_wish (c_askers : Int32) (c_places : Int32) (c_told : Nat → Int32) (c_wish : Nat → Int32) (u_above : Int64) (u_below : Int64) (u_full : Int32) (u_firsts : Int32) (u_freed : Int32) (u_whole : Int64) : List mE := [.inr (8, [.int c_askers, .int c_places, .ref 1000, .ref 2, .ref 1, .long u_above, .long u_below, .ref 1001, .int u_full, .ref 1002, .ref 1003, .ref 1004, .ref 1005, .ref 1006, .ref 1007, .int u_firsts, .ref 1008, .ref 1009, .int u_freed, .ref 1010, .ref 1011, .ref 1012, .ref 1013, .ref 1014, .ref 1015, .long u_whole, .ref 1016, .ref 1017, .ref 1018]), .inl (0, 32, .inl c_told), .inl (0, 48, .inl c_wish)]
theorem cw_X8_wish : CWv mu_X8_wish 3 := ⟨⟨all_of 888 (by decide +kernel) (by decide +kernel), all_of 9 (by decide +kernel) (by decide +kernel), by decide +kernel, by decide +kernel, by decide +kernel⟩, all_of 886 (by decide +kernel) (by decide +kernel), all_of 887 (by decide +kernel) (by decide +kernel)⟩
abbrev mu_X8_worthOf : KM := (yX8_worthOf, cX8_worthOf, 4, (some .int), { frames := 0, cells := 0, slots := 0, locals := 0 }, [], [])
def w_X8_worthOf (c_wish : Nat → Int32) (u_askers : Int32) (u_places : Int32) (u_above : Int64) (u_below : Int64) (u_full : Int32) (u_firsts : Int32) (u_freed : Int32) (u_whole : Int64) : List mE := [.inr (8, [.int u_askers, .int u_places, .ref 1000, .ref 1, .ref 1001, .long u_above, .long u_below, .ref 1002, .int u_full, .ref 1003, .ref 1004, .ref 1005, .ref 1006, .ref 1007, .ref 1008, .int u_firsts, .ref 1009, .ref 1010, .int u_freed, .ref 1011, .ref 1012, .ref 1013, .ref 1014, .ref 1015, .ref 1016, .long u_whole, .ref 1017, .ref 1018, .ref 1019]), .inl (0, 48, .inl c_wish)]
theorem cw_X8_worthOf : CWv mu_X8_worthOf 2 := ⟨⟨all_of 900 (by decide +kernel) (by decide +kernel), all_of 9 (by decide +kernel) (by decide +kernel), by decide +kernel, by decide +kernel, by decide +kernel⟩, all_of 899 (by decide +kernel) (by decide +kernel), all_pr 47 (by decide +kernel) (by decide +kernel)⟩
abbrev mu_X8_worth : KM := (yX8_worth, cX8_worth, 3, (some .int), { frames := 2, cells := 0, slots := 0, locals := 43 }, [], [])
def w_X8_worth (c_askers : Int32) (c_places : Int32) (c_wish : Nat → Int32) (u_above : Int64) (u_below : Int64) (u_full : Int32) (u_firsts : Int32) (u_freed : Int32) (u_whole : Int64) : List mE := [.inr (8, [.int c_askers, .int c_places, .ref 1000, .ref 1, .ref 1001, .long u_above, .long u_below, .ref 1002, .int u_full, .ref 1003, .ref 1004, .ref 1005, .ref 1006, .ref 1007, .ref 1008, .int u_firsts, .ref 1009, .ref 1010, .int u_freed, .ref 1011, .ref 1012, .ref 1013, .ref 1014, .ref 1015, .ref 1016, .long u_whole, .ref 1017, .ref 1018, .ref 1019]), .inl (0, 48, .inl c_wish)]
theorem cw_X8_worth : CWv mu_X8_worth 2 := ⟨⟨all_of 896 (by decide +kernel) (by decide +kernel), all_of 9 (by decide +kernel) (by decide +kernel), by decide +kernel, by decide +kernel, by decide +kernel⟩, all_of 894 (by decide +kernel) (by decide +kernel), all_of 895 (by decide +kernel) (by decide +kernel)⟩
abbrev mu_X8_findWeights : KM := (yX8_findWeights, cX8_findWeights, 3, none, { frames := 0, cells := 0, slots := 0, locals := 0 }, [], [])
def w_X8_findWeights (c_places : Int32) (c_full : Int32) (c_seats : Nat → Int32) (c_weight : Nat → Int32) (u_askers : Int32) (u_above : Int64) (u_below : Int64) (u_firsts : Int32) (u_freed : Int32) (u_whole : Int64) : List mE := [.inr (8, [.int u_askers, .int c_places, .ref 1, .ref 1000, .ref 1001, .long u_above, .long u_below, .ref 2, .int c_full, .ref 1002, .ref 1003, .ref 1004, .ref 1005, .ref 1006, .ref 1007, .int u_firsts, .ref 1008, .ref 1009, .int u_freed, .ref 1010, .ref 1011, .ref 1012, .ref 1013, .ref 1014, .ref 1015, .long u_whole, .ref 1016, .ref 1017, .ref 1018]), .inl (0, 6, .inl c_seats), .inl (0, 6, .inl c_weight)]
theorem cw_X8_findWeights : CWv mu_X8_findWeights 0 := ⟨⟨all_of 912 (by decide +kernel) (by decide +kernel), all_of 9 (by decide +kernel) (by decide +kernel), by decide +kernel, by decide +kernel, by decide +kernel⟩, all_of 911 (by decide +kernel) (by decide +kernel), all_pr 49 (by decide +kernel) (by decide +kernel)⟩
abbrev mu_X8_takes : KM := (yX8_takes, cX8_takes, 6, (some .int), { frames := 0, cells := 0, slots := 0, locals := 0 }, [], [])
def w_X8_takes (c_places : Int32) (c_seats : Nat → Int32) (c_weight : Nat → Int32) (c_wish : Nat → Int32) (u_askers : Int32) (u_above : Int64) (u_below : Int64) (u_full : Int32) (u_firsts : Int32) (u_freed : Int32) (u_whole : Int64) : List mE := [.inr (8, [.int u_askers, .int c_places, .ref 1, .ref 3, .ref 1000, .long u_above, .long u_below, .ref 2, .int u_full, .ref 1001, .ref 1002, .ref 1003, .ref 1004, .ref 1005, .ref 1006, .int u_firsts, .ref 1007, .ref 1008, .int u_freed, .ref 1009, .ref 1010, .ref 1011, .ref 1012, .ref 1013, .ref 1014, .long u_whole, .ref 1015, .ref 1016, .ref 1017]), .inl (0, 6, .inl c_seats), .inl (0, 6, .inl c_weight), .inl (0, 48, .inl c_wish)]
theorem cw_X8_takes : CWv mu_X8_takes 3 := ⟨⟨all_of 916 (by decide +kernel) (by decide +kernel), all_of 9 (by decide +kernel) (by decide +kernel), by decide +kernel, by decide +kernel, by decide +kernel⟩, all_of 915 (by decide +kernel) (by decide +kernel), all_pr 50 (by decide +kernel) (by decide +kernel)⟩
abbrev mu_X8_findCount : KM := (yX8_findCount, cX8_findCount, 7, none, { frames := 1, cells := 0, slots := 0, locals := 25 }, [], [])
def w_X8_findCount (c_askers : Int32) (c_places : Int32) (c_full : Int32) (c_count : Nat → Int64) (c_seats : Nat → Int32) (c_weight : Nat → Int32) (c_wish : Nat → Int32) (u_above : Int64) (u_below : Int64) (u_firsts : Int32) (u_freed : Int32) (u_whole : Int64) : List mE := [.inr (8, [.int c_askers, .int c_places, .ref 2, .ref 4, .ref 1000, .long u_above, .long u_below, .ref 3, .int c_full, .ref 1, .ref 1001, .ref 1002, .ref 1003, .ref 1004, .ref 1005, .int u_firsts, .ref 1006, .ref 1007, .int u_freed, .ref 1008, .ref 1009, .ref 1010, .ref 1011, .ref 1012, .ref 1013, .long u_whole, .ref 1014, .ref 1015, .ref 1016]), .inl (1, 36864, .inr (.inl c_count)), .inl (0, 6, .inl c_seats), .inl (0, 6, .inl c_weight), .inl (0, 48, .inl c_wish)]
theorem cw_X8_findCount : CWv mu_X8_findCount 0 := ⟨⟨all_of 908 (by decide +kernel) (by decide +kernel), all_of 9 (by decide +kernel) (by decide +kernel), by decide +kernel, by decide +kernel, by decide +kernel⟩, all_of 907 (by decide +kernel) (by decide +kernel), all_pr 48 (by decide +kernel) (by decide +kernel)⟩
abbrev mu_X8_givings : KM := (yX8_givings, cX8_givings, 1, (some .long), { frames := 2, cells := 0, slots := 0, locals := 51 }, [], [])
def w_X8_givings (c_askers : Int32) (c_places : Int32) (c_full : Int32) (c_count : Nat → Int64) (c_seats : Nat → Int32) (c_weight : Nat → Int32) (c_wish : Nat → Int32) (u_above : Int64) (u_below : Int64) (u_firsts : Int32) (u_freed : Int32) (u_whole : Int64) : List mE := [.inr (8, [.int c_askers, .int c_places, .ref 2, .ref 4, .ref 1000, .long u_above, .long u_below, .ref 3, .int c_full, .ref 1, .ref 1001, .ref 1002, .ref 1003, .ref 1004, .ref 1005, .int u_firsts, .ref 1006, .ref 1007, .int u_freed, .ref 1008, .ref 1009, .ref 1010, .ref 1011, .ref 1012, .ref 1013, .long u_whole, .ref 1014, .ref 1015, .ref 1016]), .inl (1, 36864, .inr (.inl c_count)), .inl (0, 6, .inl c_seats), .inl (0, 6, .inl c_weight), .inl (0, 48, .inl c_wish)]
theorem cw_X8_givings : CWv mu_X8_givings 0 := ⟨⟨all_of 904 (by decide +kernel) (by decide +kernel), all_of 9 (by decide +kernel) (by decide +kernel), by decide +kernel, by decide +kernel, by decide +kernel⟩, all_of 902 (by decide +kernel) (by decide +kernel), all_of 903 (by decide +kernel) (by decide +kernel)⟩
abbrev mu_X8_givingAt : KM := (yX8_givingAt, cX8_givingAt, 10, (some .int), { frames := 2, cells := 0, slots := 0, locals := 51 }, [], [])
def w_X8_givingAt (c_askers : Int32) (c_places : Int32) (c_full : Int32) (c_count : Nat → Int64) (c_found : Nat → Int32) (c_seats : Nat → Int32) (c_weight : Nat → Int32) (c_wish : Nat → Int32) (u_above : Int64) (u_below : Int64) (u_firsts : Int32) (u_freed : Int32) (u_whole : Int64) : List mE := [.inr (8, [.int c_askers, .int c_places, .ref 3, .ref 5, .ref 1000, .long u_above, .long u_below, .ref 4, .int c_full, .ref 1, .ref 2, .ref 1001, .ref 1002, .ref 1003, .ref 1004, .int u_firsts, .ref 1005, .ref 1006, .int u_freed, .ref 1007, .ref 1008, .ref 1009, .ref 1010, .ref 1011, .ref 1012, .long u_whole, .ref 1013, .ref 1014, .ref 1015]), .inl (1, 36864, .inr (.inl c_count)), .inl (0, 8, .inl c_found), .inl (0, 6, .inl c_seats), .inl (0, 6, .inl c_weight), .inl (0, 48, .inl c_wish)]
theorem cw_X8_givingAt : CWv mu_X8_givingAt 2 := ⟨⟨all_of 920 (by decide +kernel) (by decide +kernel), all_of 9 (by decide +kernel) (by decide +kernel), by decide +kernel, by decide +kernel, by decide +kernel⟩, all_of 918 (by decide +kernel) (by decide +kernel), all_of 919 (by decide +kernel) (by decide +kernel)⟩
abbrev mu_X8_give : KM := (yX8_give, cX8_give, 5, (some .int), { frames := 2, cells := 0, slots := 0, locals := 43 }, [], [])
def w_X8_give (c_askers : Int32) (c_places : Int32) (c_seats : Nat → Int32) (c_told : Nat → Int32) (c_wish : Nat → Int32) (u_above : Int64) (u_below : Int64) (u_full : Int32) (u_firsts : Int32) (u_freed : Int32) (u_whole : Int64) : List mE := [.inr (8, [.int c_askers, .int c_places, .ref 1, .ref 3, .ref 2, .long u_above, .long u_below, .ref 1000, .int u_full, .ref 1001, .ref 1002, .ref 1003, .ref 1004, .ref 1005, .ref 1006, .int u_firsts, .ref 1007, .ref 1008, .int u_freed, .ref 1009, .ref 1010, .ref 1011, .ref 1012, .ref 1013, .ref 1014, .long u_whole, .ref 1015, .ref 1016, .ref 1017]), .inl (0, 6, .inl c_seats), .inl (0, 32, .inl c_told), .inl (0, 48, .inl c_wish)]
theorem cw_X8_give : CWv mu_X8_give 3 := ⟨⟨all_of 924 (by decide +kernel) (by decide +kernel), all_of 9 (by decide +kernel) (by decide +kernel), by decide +kernel, by decide +kernel, by decide +kernel⟩, all_of 922 (by decide +kernel) (by decide +kernel), all_of 923 (by decide +kernel) (by decide +kernel)⟩
abbrev mu_X8_findLeast : KM := (yX8_findLeast, cX8_findLeast, 9, (some .long), { frames := 1, cells := 0, slots := 0, locals := 25 }, [], [])
def w_X8_findLeast (c_askers : Int32) (c_places : Int32) (c_full : Int32) (c_cost : Nat → Int64) (c_found : Nat → Int32) (c_least : Nat → Int64) (c_seats : Nat → Int32) (c_weight : Nat → Int32) (c_wish : Nat → Int32) (u_above : Int64) (u_below : Int64) (u_firsts : Int32) (u_freed : Int32) (u_whole : Int64) : List mE := [.inr (8, [.int c_askers, .int c_places, .ref 4, .ref 6, .ref 1000, .long u_above, .long u_below, .ref 5, .int c_full, .ref 1001, .ref 2, .ref 1, .ref 3, .ref 1002, .ref 1003, .int u_firsts, .ref 1004, .ref 1005, .int u_freed, .ref 1006, .ref 1007, .ref 1008, .ref 1009, .ref 1010, .ref 1011, .long u_whole, .ref 1012, .ref 1013, .ref 1014]), .inl (1, 56, .inr (.inl c_cost)), .inl (0, 8, .inl c_found), .inl (1, 36864, .inr (.inl c_least)), .inl (0, 6, .inl c_seats), .inl (0, 6, .inl c_weight), .inl (0, 48, .inl c_wish)]
theorem cw_X8_findLeast : CWv mu_X8_findLeast 0 := ⟨⟨all_of 948 (by decide +kernel) (by decide +kernel), all_of 9 (by decide +kernel) (by decide +kernel), by decide +kernel, by decide +kernel, by decide +kernel⟩, all_of 947 (by decide +kernel) (by decide +kernel), all_pr 52 (by decide +kernel) (by decide +kernel)⟩
abbrev mu_X8_power : KM := (yX8_power, cX8_power, 4, (some .long), { frames := 0, cells := 0, slots := 0, locals := 0 }, [], [])
theorem cw_X8_power : CWs mu_X8_power 1 := ⟨⟨all_of 942 (by decide +kernel) (by decide +kernel), all_of 9 (by decide +kernel) (by decide +kernel), by decide +kernel, by decide +kernel, by decide +kernel⟩, all_of 941 (by decide +kernel) (by decide +kernel)⟩
abbrev mu_X8_costBy : KM := (yX8_costBy, cX8_costBy, 2, (some .long), { frames := 1, cells := 0, slots := 0, locals := 23 }, [], [])
theorem cw_X8_costBy : CWs mu_X8_costBy 2 := ⟨⟨all_of 939 (by decide +kernel) (by decide +kernel), all_of 9 (by decide +kernel) (by decide +kernel), by decide +kernel, by decide +kernel, by decide +kernel⟩, all_of 938 (by decide +kernel) (by decide +kernel)⟩
set_option maxRecDepth 20000 in
theorem dX8_in_0 : decode cX8_in 0 = .ok (.iload_n 0, 1) := by decide +kernel
set_option maxRecDepth 20000 in
theorem dX8_in_1 : decode cX8_in 1 = .ok (.iload_n 1, 1) := by decide +kernel
set_option maxRecDepth 20000 in
theorem dX8_in_2 : decode cX8_in 2 = .ok (.if_icmp .lt 12, 3) := by decide +kernel
set_option maxRecDepth 20000 in
theorem dX8_in_5 : decode cX8_in 5 = .ok (.iload_n 0, 1) := by decide +kernel
set_option maxRecDepth 20000 in
theorem dX8_in_6 : decode cX8_in 6 = .ok (.iload_n 2, 1) := by decide +kernel
set_option maxRecDepth 20000 in
theorem dX8_in_7 : decode cX8_in 7 = .ok (.if_icmp .gt 7, 3) := by decide +kernel
set_option maxRecDepth 20000 in
theorem dX8_in_10 : decode cX8_in 10 = .ok (.iconst 1, 1) := by decide +kernel
set_option maxRecDepth 20000 in
theorem dX8_in_11 : decode cX8_in 11 = .ok (.goto 4, 3) := by decide +kernel
set_option maxRecDepth 20000 in
theorem dX8_in_14 : decode cX8_in 14 = .ok (.iconst 0, 1) := by decide +kernel
set_option maxRecDepth 20000 in
theorem dX8_in_15 : decode cX8_in 15 = .ok (.ireturn, 1) := by decide +kernel
def f_X8_in (N : Nat)  (a0 : Int32) (a1 : Int32) (a2 : Int32) : Option (Int32) :=
  (if a0 < a1 then
    some 0
  else
    (if a2 < a0 then
      some 0
    else
      some 1))
set_option maxHeartbeats 4000000 in
set_option maxRecDepth 100000 in
theorem c_X8_in {N : Nat}    {a0 : Int32} {a1 : Int32} {a2 : Int32} {res : Int32} (hf : f_X8_in N a0 a1 a2 = some res) : Con mu_X8_in [.int a0, .int a1, .int a2] [] (some (.int res)) [] := by
  refine Con.mk (show plainName RX8 = true by decide +kernel) (leb rfl) (fun κ ω A ad => ?_)
  change GG mu_X8_in κ ω A (QR κ ω A ad (some (.int res)) []) ad 0 0 0 [] [some (.int a0), some (.int a1), some (.int a2)] []
  refine G_iload_n dX8_in_0 rfl rfl ?_
  refine G_iload_n dX8_in_1 rfl rfl ?_
  refine G_icmp_lt 14 dX8_in_2 (by decide) (fun h1 => ?_) (fun h1 => ?_)
  · replace hf := ob_t h1 hf
    refine G_iconst 0 dX8_in_14 (by decide) ?_
    obtain rfl := os hf
    exact G_zreturn dX8_in_15 rfl z_0
  · replace hf := ob_f h1 hf
    refine G_iload_n dX8_in_5 rfl rfl ?_
    refine G_iload_n dX8_in_6 rfl rfl ?_
    refine G_icmp_gt 14 dX8_in_7 (by decide) (fun h2 => ?_) (fun h2 => ?_)
    · replace hf := ob_t h2 hf
      refine G_iconst 0 dX8_in_14 (by decide) ?_
      obtain rfl := os hf
      exact G_zreturn dX8_in_15 rfl z_0
    · replace hf := ob_f h2 hf
      refine G_iconst 1 dX8_in_10 (by decide) ?_
      refine G_goto 15 dX8_in_11 (by decide) ?_
      obtain rfl := os hf
      exact G_zreturn dX8_in_15 rfl z_1
set_option maxRecDepth 20000 in
theorem dX8_divisor_0 : decode cX8_divisor 0 = .ok (.lload_n 0, 1) := by decide +kernel
set_option maxRecDepth 20000 in
theorem dX8_divisor_1 : decode cX8_divisor 1 = .ok (.lstore 4, 2) := by decide +kernel
set_option maxRecDepth 20000 in
theorem dX8_divisor_3 : decode cX8_divisor 3 = .ok (.lload_n 2, 1) := by decide +kernel
set_option maxRecDepth 20000 in
theorem dX8_divisor_4 : decode cX8_divisor 4 = .ok (.lstore 6, 2) := by decide +kernel
set_option maxRecDepth 20000 in
theorem dX8_divisor_6 : decode cX8_divisor 6 = .ok (.lload 6, 2) := by decide +kernel
set_option maxRecDepth 20000 in
theorem dX8_divisor_8 : decode cX8_divisor 8 = .ok (.lconst 0, 1) := by decide +kernel
set_option maxRecDepth 20000 in
theorem dX8_divisor_9 : decode cX8_divisor 9 = .ok (.lcmp, 1) := by decide +kernel
set_option maxRecDepth 20000 in
theorem dX8_divisor_10 : decode cX8_divisor 10 = .ok (.ifCond .eq 21, 3) := by decide +kernel
set_option maxRecDepth 20000 in
theorem dX8_divisor_13 : decode cX8_divisor 13 = .ok (.lload 4, 2) := by decide +kernel
set_option maxRecDepth 20000 in
theorem dX8_divisor_15 : decode cX8_divisor 15 = .ok (.lload 6, 2) := by decide +kernel
set_option maxRecDepth 20000 in
theorem dX8_divisor_17 : decode cX8_divisor 17 = .ok (.lrem, 1) := by decide +kernel
set_option maxRecDepth 20000 in
theorem dX8_divisor_18 : decode cX8_divisor 18 = .ok (.lstore 8, 2) := by decide +kernel
set_option maxRecDepth 20000 in
theorem dX8_divisor_20 : decode cX8_divisor 20 = .ok (.lload 6, 2) := by decide +kernel
set_option maxRecDepth 20000 in
theorem dX8_divisor_22 : decode cX8_divisor 22 = .ok (.lstore 4, 2) := by decide +kernel
set_option maxRecDepth 20000 in
theorem dX8_divisor_24 : decode cX8_divisor 24 = .ok (.lload 8, 2) := by decide +kernel
set_option maxRecDepth 20000 in
theorem dX8_divisor_26 : decode cX8_divisor 26 = .ok (.lstore 6, 2) := by decide +kernel
set_option maxRecDepth 20000 in
theorem dX8_divisor_28 : decode cX8_divisor 28 = .ok (.goto (-22), 3) := by decide +kernel
set_option maxRecDepth 20000 in
theorem dX8_divisor_31 : decode cX8_divisor 31 = .ok (.lload 4, 2) := by decide +kernel
set_option maxRecDepth 20000 in
theorem dX8_divisor_33 : decode cX8_divisor 33 = .ok (.lreturn, 1) := by decide +kernel
def f_X8_divisor_6 (N : Nat) : Nat → Int64 → Int64 → Option (Int64)
  | 0, _, _ => none
  | n + 1, v4, v6 =>
    (if v6 = 0 then
      some v4
    else
      if v6 = 0 then none else
      f_X8_divisor_6 N n v6 (v4 - v4 / v6 * v6))
set_option maxHeartbeats 4000000 in
set_option maxRecDepth 100000 in
theorem g_X8_divisor_6 {κ : KC} {ω : KW} {A : Nat → Prop} {ad : Nat → Nat}  {N : Nat}   {res : Int64} : ∀ (n : Nat) {v4 : Int64} {v6 : Int64}, f_X8_divisor_6 N n v4 v6 = some res → GG mu_X8_divisor κ ω A (QR κ ω A ad (some (.long res)) []) ad 0 0 6 [] [none, none, none, none, some (.long v4), none, some (.long v6), none, none, none] [] := by
  intro n
  induction n with
  | zero => intro v4 v6 hf; exact ob_0 hf
  | succ n ih =>
    intro v4 v6 hf
    refine G_lload dX8_divisor_6 rfl ?_
    refine G_lconst 0 dX8_divisor_8 (by decide) ?_
    refine G_lcmp_eq 31 dX8_divisor_9 dX8_divisor_10 (by decide) (fun h1 => ?_) (fun h1 => ?_)
    · replace hf := ob_t h1 hf
      refine G_lload dX8_divisor_31 rfl ?_
      obtain rfl := os hf
      exact G_lreturn dX8_divisor_33 rfl
    · replace hf := ob_f h1 hf
      refine G_lload dX8_divisor_13 rfl ?_
      refine G_lload dX8_divisor_15 rfl ?_
      obtain ⟨h2, hf⟩ := ob_z hf
      refine G_lrem dX8_divisor_17 h2 ?_
      refine G_lstore dX8_divisor_18 (ltb rfl) ?_
      change GG _ _ _ _ _ _ _ _ _ _ [none, none, none, none, some (.long v4), none, some (.long v6), none, some (.long (v4 - v4 / v6 * v6)), none] _
      refine G_lload dX8_divisor_20 rfl ?_
      refine G_lstore dX8_divisor_22 (ltb rfl) ?_
      change GG _ _ _ _ _ _ _ _ _ _ [none, none, none, none, some (.long v6), none, some (.long v6), none, some (.long (v4 - v4 / v6 * v6)), none] _
      refine G_lload dX8_divisor_24 rfl ?_
      refine G_lstore dX8_divisor_26 (ltb rfl) ?_
      change GG _ _ _ _ _ _ _ _ _ _ [none, none, none, none, some (.long v6), none, some (.long (v4 - v4 / v6 * v6)), none, some (.long (v4 - v4 / v6 * v6)), none] _
      refine G_goto 6 dX8_divisor_28 (by decide) ?_
      refine GG.sb (lv2 := [none, none, none, none, some (.long v6), none, some (.long (v4 - v4 / v6 * v6)), none, none, none]) ?_ (lvS_n (lvS_n (lvS_n (lvS_n (lvS_v rfl (lvS_n (lvS_v rfl (lvS_n (lvS_n (lvS_n (lvS_e)))))))))))
      exact ih hf
def f_X8_divisor (N : Nat)  (a0 : Int64) (a2 : Int64) : Option (Int64) :=
  f_X8_divisor_6 N N a0 a2
set_option maxHeartbeats 4000000 in
set_option maxRecDepth 100000 in
theorem c_X8_divisor {N : Nat}    {a0 : Int64} {a2 : Int64} {res : Int64} (hf : f_X8_divisor N a0 a2 = some res) : Con mu_X8_divisor [.long a0, .long a2] [] (some (.long res)) [] := by
  refine Con.mk (show plainName RX8 = true by decide +kernel) (leb rfl) (fun κ ω A ad => ?_)
  change GG mu_X8_divisor κ ω A (QR κ ω A ad (some (.long res)) []) ad 0 0 0 [] [some (.long a0), none, some (.long a2), none, none, none, none, none, none, none] []
  refine G_lload_n dX8_divisor_0 rfl rfl ?_
  refine G_lstore dX8_divisor_1 (ltb rfl) ?_
  change GG _ _ _ _ _ _ _ _ _ _ [some (.long a0), none, some (.long a2), none, some (.long a0), none, none, none, none, none] _
  refine G_lload_n dX8_divisor_3 rfl rfl ?_
  refine G_lstore dX8_divisor_4 (ltb rfl) ?_
  change GG _ _ _ _ _ _ _ _ _ _ [some (.long a0), none, some (.long a2), none, some (.long a0), none, some (.long a2), none, none, none] _
  refine GG.sb (lv2 := [none, none, none, none, some (.long a0), none, some (.long a2), none, none, none]) ?_ (lvS_n (lvS_n (lvS_n (lvS_n (lvS_v rfl (lvS_n (lvS_v rfl (lvS_n (lvS_n (lvS_n (lvS_e)))))))))))
  exact g_X8_divisor_6 N hf
set_option maxRecDepth 20000 in
theorem dX8_tells_0 : decode cX8_tells 0 = .ok (.lload_n 1, 1) := by decide +kernel
set_option maxRecDepth 20000 in
theorem dX8_tells_1 : decode cX8_tells 1 = .ok (.lload_n 3, 1) := by decide +kernel
set_option maxRecDepth 20000 in
theorem dX8_tells_2 : decode cX8_tells 2 = .ok (.invokestatic 82, 3) := by decide +kernel
set_option maxRecDepth 20000 in
theorem dX8_tells_5 : decode cX8_tells 5 = .ok (.lstore 5, 2) := by decide +kernel
set_option maxRecDepth 20000 in
theorem dX8_tells_7 : decode cX8_tells 7 = .ok (.aload_n 0, 1) := by decide +kernel
set_option maxRecDepth 20000 in
theorem dX8_tells_8 : decode cX8_tells 8 = .ok (.lload_n 1, 1) := by decide +kernel
set_option maxRecDepth 20000 in
theorem dX8_tells_9 : decode cX8_tells 9 = .ok (.lload 5, 2) := by decide +kernel
set_option maxRecDepth 20000 in
theorem dX8_tells_11 : decode cX8_tells 11 = .ok (.ldiv, 1) := by decide +kernel
set_option maxRecDepth 20000 in
theorem dX8_tells_12 : decode cX8_tells 12 = .ok (.putfield 86, 3) := by decide +kernel
set_option maxRecDepth 20000 in
theorem dX8_tells_15 : decode cX8_tells 15 = .ok (.aload_n 0, 1) := by decide +kernel
set_option maxRecDepth 20000 in
theorem dX8_tells_16 : decode cX8_tells 16 = .ok (.lload_n 3, 1) := by decide +kernel
set_option maxRecDepth 20000 in
theorem dX8_tells_17 : decode cX8_tells 17 = .ok (.lload 5, 2) := by decide +kernel
set_option maxRecDepth 20000 in
theorem dX8_tells_19 : decode cX8_tells 19 = .ok (.ldiv, 1) := by decide +kernel
set_option maxRecDepth 20000 in
theorem dX8_tells_20 : decode cX8_tells 20 = .ok (.putfield 78, 3) := by decide +kernel
set_option maxRecDepth 20000 in
theorem dX8_tells_23 : decode cX8_tells 23 = .ok (.iconst 1, 1) := by decide +kernel
set_option maxRecDepth 20000 in
theorem dX8_tells_24 : decode cX8_tells 24 = .ok (.ireturn, 1) := by decide +kernel
def f_X8_tells (N : Nat) (c_above : Int64) (c_below : Int64) (a1 : Int64) (a3 : Int64) : Option (Int32 × Int64 × Int64) :=
  (f_X8_divisor N a1 a3).bind fun r1 =>
  if r1 = 0 then none else
  if r1 = 0 then none else
  some (1, a1 / r1, a3 / r1)
set_option maxHeartbeats 4000000 in
set_option maxRecDepth 100000 in
theorem c_X8_tells {N : Nat}  {c_above : Int64} {c_below : Int64} {u_askers : Int32} {u_places : Int32} {u_full : Int32} {u_firsts : Int32} {u_freed : Int32} {u_whole : Int64} {a1 : Int64} {a3 : Int64} {res : Int32 × Int64 × Int64} (hf : f_X8_tells N c_above c_below a1 a3 = some res) : Con mu_X8_tells [.ref 0, .long a1, .long a3] (w_X8_tells c_above c_below u_askers u_places u_full u_firsts u_freed u_whole) (some (.int res.1)) (w_X8_tells res.2.1 res.2.2 u_askers u_places u_full u_firsts u_freed u_whole) := by
  refine Con.mk (show plainName RX8 = true by decide +kernel) (leb rfl) (fun κ ω A ad => ?_)
  change GG mu_X8_tells κ ω A (QR κ ω A ad (some (.int res.1)) (w_X8_tells res.2.1 res.2.2 u_askers u_places u_full u_firsts u_freed u_whole)) ad 0 0 0 (w_X8_tells c_above c_below u_askers u_places u_full u_firsts u_freed u_whole) [some (.ref 0), some (.long a1), none, some (.long a3), none, none, none] []
  refine G_lload_n dX8_tells_0 rfl rfl ?_
  refine G_lload_n dX8_tells_1 rfl rfl ?_
  obtain ⟨r1, hc2, hf⟩ := ob hf
  refine G_callS (μ2 := mu_X8_divisor) (As := [.long a1, .long a3]) (w2 := (w_X8_tells c_above c_below u_askers u_places u_full u_firsts u_freed u_whole)) (wc := []) (wc2 := []) (rest := []) (rv := [.long r1]) [] [] [0] [0] (c_X8_divisor hc2) cw_X8_divisor m_X8_82 rfl dX8_tells_2 rfl ⟨leb rfl, leb rfl⟩ ⟨rfl, rfl⟩ (Fit.mk rfl rfl rfl) rfl (leb rfl) (ROsub.nil rfl rfl) rfl ?_
  change GG _ _ _ _ _ _ _ _ _ (w_X8_tells c_above c_below u_askers u_places u_full u_firsts u_freed u_whole) [some (.ref 0), some (.long a1), none, some (.long a3), none, none, none] [.long r1]
  refine G_lstore dX8_tells_5 (ltb rfl) ?_
  change GG _ _ _ _ _ _ _ _ _ _ [some (.ref 0), some (.long a1), none, some (.long a3), none, some (.long r1), none] _
  refine G_aload_n dX8_tells_7 rfl rfl ?_
  refine G_lload_n dX8_tells_8 rfl rfl ?_
  refine G_lload dX8_tells_9 rfl ?_
  obtain ⟨h3, hf⟩ := ob_z hf
  refine G_ldiv dX8_tells_11 h3 ?_
  refine G_put (w2 := (w_X8_tells (a1 / r1) c_below u_askers u_places u_full u_firsts u_freed u_whole)) F_X8_86 dX8_tells_12 rfl rfl rfl (ltb rfl) rfl ?_
  refine G_aload_n dX8_tells_15 rfl rfl ?_
  refine G_lload_n dX8_tells_16 rfl rfl ?_
  refine G_lload dX8_tells_17 rfl ?_
  obtain ⟨h4, hf⟩ := ob_z hf
  refine G_ldiv dX8_tells_19 h4 ?_
  refine G_put (w2 := (w_X8_tells (a1 / r1) (a3 / r1) u_askers u_places u_full u_firsts u_freed u_whole)) F_X8_78 dX8_tells_20 rfl rfl rfl (ltb rfl) rfl ?_
  refine G_iconst 1 dX8_tells_23 (by decide) ?_
  obtain rfl := os hf
  exact G_ireturn dX8_tells_24 rfl
set_option maxRecDepth 20000 in
theorem dX8_isAsker_0 : decode cX8_isAsker 0 = .ok (.iload_n 1, 1) := by decide +kernel
set_option maxRecDepth 20000 in
theorem dX8_isAsker_1 : decode cX8_isAsker 1 = .ok (.iconst 0, 1) := by decide +kernel
set_option maxRecDepth 20000 in
theorem dX8_isAsker_2 : decode cX8_isAsker 2 = .ok (.aload_n 0, 1) := by decide +kernel
set_option maxRecDepth 20000 in
theorem dX8_isAsker_3 : decode cX8_isAsker 3 = .ok (.getfield 89, 3) := by decide +kernel
set_option maxRecDepth 20000 in
theorem dX8_isAsker_6 : decode cX8_isAsker 6 = .ok (.iconst 1, 1) := by decide +kernel
set_option maxRecDepth 20000 in
theorem dX8_isAsker_7 : decode cX8_isAsker 7 = .ok (.isub, 1) := by decide +kernel
set_option maxRecDepth 20000 in
theorem dX8_isAsker_8 : decode cX8_isAsker 8 = .ok (.invokestatic 93, 3) := by decide +kernel
set_option maxRecDepth 20000 in
theorem dX8_isAsker_11 : decode cX8_isAsker 11 = .ok (.ireturn, 1) := by decide +kernel
def f_X8_isAsker (N : Nat) (c_askers : Int32) (a1 : Int32) : Option (Int32) :=
  (f_X8_in N a1 0 (c_askers - 1)).bind fun r1 =>
  if ¬ vp_nar .boolean r1 = r1 then none else some r1
set_option maxHeartbeats 4000000 in
set_option maxRecDepth 100000 in
theorem c_X8_isAsker {N : Nat} {c_askers : Int32}  {u_places : Int32} {u_above : Int64} {u_below : Int64} {u_full : Int32} {u_firsts : Int32} {u_freed : Int32} {u_whole : Int64} {a1 : Int32} {res : Int32} (hf : f_X8_isAsker N c_askers a1 = some res) : Con mu_X8_isAsker [.ref 0, .int a1] (w_X8_isAsker c_askers u_places u_above u_below u_full u_firsts u_freed u_whole) (some (.int res)) (w_X8_isAsker c_askers u_places u_above u_below u_full u_firsts u_freed u_whole) := by
  refine Con.mk (show plainName RX8 = true by decide +kernel) (leb rfl) (fun κ ω A ad => ?_)
  change GG mu_X8_isAsker κ ω A (QR κ ω A ad (some (.int res)) (w_X8_isAsker c_askers u_places u_above u_below u_full u_firsts u_freed u_whole)) ad 0 0 0 (w_X8_isAsker c_askers u_places u_above u_below u_full u_firsts u_freed u_whole) [some (.ref 0), some (.int a1)] []
  refine G_iload_n dX8_isAsker_0 rfl rfl ?_
  refine G_iconst 0 dX8_isAsker_1 (by decide) ?_
  refine G_aload_n dX8_isAsker_2 rfl rfl ?_
  refine G_get (v := .int c_askers) F_X8_89 dX8_isAsker_3 rfl rfl ?_
  refine G_iconst 1 dX8_isAsker_6 (by decide) ?_
  refine G_isub dX8_isAsker_7 ?_
  obtain ⟨r1, hc2, hf⟩ := ob hf
  refine G_callS (μ2 := mu_X8_in) (As := [.int a1, .int 0, .int (c_askers - 1)]) (w2 := (w_X8_isAsker c_askers u_places u_above u_below u_full u_firsts u_freed u_whole)) (wc := []) (wc2 := []) (rest := []) (rv := [.int r1]) [] [] [0] [0] (c_X8_in hc2) cw_X8_in m_X8_93 rfl dX8_isAsker_8 rfl ⟨leb rfl, leb rfl⟩ ⟨rfl, rfl⟩ (Fit.mk rfl rfl rfl) rfl (leb rfl) (ROsub.nil rfl rfl) rfl ?_
  change GG _ _ _ _ _ _ _ _ _ (w_X8_isAsker c_askers u_places u_above u_below u_full u_firsts u_freed u_whole) [some (.ref 0), some (.int a1)] [.int r1]
  obtain ⟨h3, hf⟩ := ob_z hf
  replace h3 := Classical.not_not.mp h3
  obtain rfl := os hf
  exact G_zreturn dX8_isAsker_11 rfl h3
set_option maxRecDepth 20000 in
theorem dX8_isPlace_0 : decode cX8_isPlace 0 = .ok (.iload_n 1, 1) := by decide +kernel
set_option maxRecDepth 20000 in
theorem dX8_isPlace_1 : decode cX8_isPlace 1 = .ok (.iconst 0, 1) := by decide +kernel
set_option maxRecDepth 20000 in
theorem dX8_isPlace_2 : decode cX8_isPlace 2 = .ok (.aload_n 0, 1) := by decide +kernel
set_option maxRecDepth 20000 in
theorem dX8_isPlace_3 : decode cX8_isPlace 3 = .ok (.getfield 97, 3) := by decide +kernel
set_option maxRecDepth 20000 in
theorem dX8_isPlace_6 : decode cX8_isPlace 6 = .ok (.iconst 1, 1) := by decide +kernel
set_option maxRecDepth 20000 in
theorem dX8_isPlace_7 : decode cX8_isPlace 7 = .ok (.isub, 1) := by decide +kernel
set_option maxRecDepth 20000 in
theorem dX8_isPlace_8 : decode cX8_isPlace 8 = .ok (.invokestatic 93, 3) := by decide +kernel
set_option maxRecDepth 20000 in
theorem dX8_isPlace_11 : decode cX8_isPlace 11 = .ok (.ireturn, 1) := by decide +kernel
def f_X8_isPlace (N : Nat) (c_places : Int32) (a1 : Int32) : Option (Int32) :=
  (f_X8_in N a1 0 (c_places - 1)).bind fun r1 =>
  if ¬ vp_nar .boolean r1 = r1 then none else some r1
set_option maxHeartbeats 4000000 in
set_option maxRecDepth 100000 in
theorem c_X8_isPlace {N : Nat} {c_places : Int32}  {u_askers : Int32} {u_above : Int64} {u_below : Int64} {u_full : Int32} {u_firsts : Int32} {u_freed : Int32} {u_whole : Int64} {a1 : Int32} {res : Int32} (hf : f_X8_isPlace N c_places a1 = some res) : Con mu_X8_isPlace [.ref 0, .int a1] (w_X8_isPlace c_places u_askers u_above u_below u_full u_firsts u_freed u_whole) (some (.int res)) (w_X8_isPlace c_places u_askers u_above u_below u_full u_firsts u_freed u_whole) := by
  refine Con.mk (show plainName RX8 = true by decide +kernel) (leb rfl) (fun κ ω A ad => ?_)
  change GG mu_X8_isPlace κ ω A (QR κ ω A ad (some (.int res)) (w_X8_isPlace c_places u_askers u_above u_below u_full u_firsts u_freed u_whole)) ad 0 0 0 (w_X8_isPlace c_places u_askers u_above u_below u_full u_firsts u_freed u_whole) [some (.ref 0), some (.int a1)] []
  refine G_iload_n dX8_isPlace_0 rfl rfl ?_
  refine G_iconst 0 dX8_isPlace_1 (by decide) ?_
  refine G_aload_n dX8_isPlace_2 rfl rfl ?_
  refine G_get (v := .int c_places) F_X8_97 dX8_isPlace_3 rfl rfl ?_
  refine G_iconst 1 dX8_isPlace_6 (by decide) ?_
  refine G_isub dX8_isPlace_7 ?_
  obtain ⟨r1, hc2, hf⟩ := ob hf
  refine G_callS (μ2 := mu_X8_in) (As := [.int a1, .int 0, .int (c_places - 1)]) (w2 := (w_X8_isPlace c_places u_askers u_above u_below u_full u_firsts u_freed u_whole)) (wc := []) (wc2 := []) (rest := []) (rv := [.int r1]) [] [] [0] [0] (c_X8_in hc2) cw_X8_in m_X8_93 rfl dX8_isPlace_8 rfl ⟨leb rfl, leb rfl⟩ ⟨rfl, rfl⟩ (Fit.mk rfl rfl rfl) rfl (leb rfl) (ROsub.nil rfl rfl) rfl ?_
  change GG _ _ _ _ _ _ _ _ _ (w_X8_isPlace c_places u_askers u_above u_below u_full u_firsts u_freed u_whole) [some (.ref 0), some (.int a1)] [.int r1]
  obtain ⟨h3, hf⟩ := ob_z hf
  replace h3 := Classical.not_not.mp h3
  obtain rfl := os hf
  exact G_zreturn dX8_isPlace_11 rfl h3
set_option maxRecDepth 20000 in
theorem dX8_isTold_0 : decode cX8_isTold 0 = .ok (.iload_n 0, 1) := by decide +kernel
set_option maxRecDepth 20000 in
theorem dX8_isTold_1 : decode cX8_isTold 1 = .ok (.iconst 0, 1) := by decide +kernel
set_option maxRecDepth 20000 in
theorem dX8_isTold_2 : decode cX8_isTold 2 = .ok (.iconst 3, 1) := by decide +kernel
set_option maxRecDepth 20000 in
theorem dX8_isTold_3 : decode cX8_isTold 3 = .ok (.invokestatic 93, 3) := by decide +kernel
set_option maxRecDepth 20000 in
theorem dX8_isTold_6 : decode cX8_isTold 6 = .ok (.ireturn, 1) := by decide +kernel
def f_X8_isTold (N : Nat)  (a0 : Int32) : Option (Int32) :=
  (f_X8_in N a0 0 3).bind fun r1 =>
  if ¬ vp_nar .boolean r1 = r1 then none else some r1
set_option maxHeartbeats 4000000 in
set_option maxRecDepth 100000 in
theorem c_X8_isTold {N : Nat}    {a0 : Int32} {res : Int32} (hf : f_X8_isTold N a0 = some res) : Con mu_X8_isTold [.int a0] [] (some (.int res)) [] := by
  refine Con.mk (show plainName RX8 = true by decide +kernel) (leb rfl) (fun κ ω A ad => ?_)
  change GG mu_X8_isTold κ ω A (QR κ ω A ad (some (.int res)) []) ad 0 0 0 [] [some (.int a0)] []
  refine G_iload_n dX8_isTold_0 rfl rfl ?_
  refine G_iconst 0 dX8_isTold_1 (by decide) ?_
  refine G_iconst 3 dX8_isTold_2 (by decide) ?_
  obtain ⟨r1, hc2, hf⟩ := ob hf
  refine G_callS (μ2 := mu_X8_in) (As := [.int a0, .int 0, .int 3]) (w2 := []) (wc := []) (wc2 := []) (rest := []) (rv := [.int r1]) [] [] [] [] (c_X8_in hc2) cw_X8_in m_X8_93 rfl dX8_isTold_3 rfl ⟨leb rfl, leb rfl⟩ ⟨rfl, rfl⟩ (Fit.mk rfl rfl rfl) rfl (leb rfl) (ROsub.nil rfl rfl) rfl ?_
  change GG _ _ _ _ _ _ _ _ _ [] [some (.int a0)] [.int r1]
  obtain ⟨h3, hf⟩ := ob_z hf
  replace h3 := Classical.not_not.mp h3
  obtain rfl := os hf
  exact G_zreturn dX8_isTold_6 rfl h3
set_option maxRecDepth 20000 in
theorem dX8_asker_0 : decode cX8_asker 0 = .ok (.aload_n 0, 1) := by decide +kernel
set_option maxRecDepth 20000 in
theorem dX8_asker_1 : decode cX8_asker 1 = .ok (.getfield 89, 3) := by decide +kernel
set_option maxRecDepth 20000 in
theorem dX8_asker_4 : decode cX8_asker 4 = .ok (.bipush 8, 2) := by decide +kernel
set_option maxRecDepth 20000 in
theorem dX8_asker_6 : decode cX8_asker 6 = .ok (.if_icmp .ne 6, 3) := by decide +kernel
set_option maxRecDepth 20000 in
theorem dX8_asker_9 : decode cX8_asker 9 = .ok (.bipush (-4), 2) := by decide +kernel
set_option maxRecDepth 20000 in
theorem dX8_asker_11 : decode cX8_asker 11 = .ok (.ireturn, 1) := by decide +kernel
set_option maxRecDepth 20000 in
theorem dX8_asker_12 : decode cX8_asker 12 = .ok (.aload_n 0, 1) := by decide +kernel
set_option maxRecDepth 20000 in
theorem dX8_asker_13 : decode cX8_asker 13 = .ok (.dup, 1) := by decide +kernel
set_option maxRecDepth 20000 in
theorem dX8_asker_14 : decode cX8_asker 14 = .ok (.getfield 89, 3) := by decide +kernel
set_option maxRecDepth 20000 in
theorem dX8_asker_17 : decode cX8_asker 17 = .ok (.iconst 1, 1) := by decide +kernel
set_option maxRecDepth 20000 in
theorem dX8_asker_18 : decode cX8_asker 18 = .ok (.iadd, 1) := by decide +kernel
set_option maxRecDepth 20000 in
theorem dX8_asker_19 : decode cX8_asker 19 = .ok (.putfield 89, 3) := by decide +kernel
set_option maxRecDepth 20000 in
theorem dX8_asker_22 : decode cX8_asker 22 = .ok (.aload_n 0, 1) := by decide +kernel
set_option maxRecDepth 20000 in
theorem dX8_asker_23 : decode cX8_asker 23 = .ok (.getfield 89, 3) := by decide +kernel
set_option maxRecDepth 20000 in
theorem dX8_asker_26 : decode cX8_asker 26 = .ok (.iconst 1, 1) := by decide +kernel
set_option maxRecDepth 20000 in
theorem dX8_asker_27 : decode cX8_asker 27 = .ok (.isub, 1) := by decide +kernel
set_option maxRecDepth 20000 in
theorem dX8_asker_28 : decode cX8_asker 28 = .ok (.ireturn, 1) := by decide +kernel
def f_X8_asker (N : Nat) (c_askers : Int32)  : Option (Int32 × Int32) :=
  (if c_askers = 8 then
    some ((-4 : Int32), c_askers)
  else
    some ((c_askers + 1) - 1, c_askers + 1))
set_option maxHeartbeats 4000000 in
set_option maxRecDepth 100000 in
theorem c_X8_asker {N : Nat}  {c_askers : Int32} {u_places : Int32} {u_above : Int64} {u_below : Int64} {u_full : Int32} {u_firsts : Int32} {u_freed : Int32} {u_whole : Int64}  {res : Int32 × Int32} (hf : f_X8_asker N c_askers = some res) : Con mu_X8_asker [.ref 0] (w_X8_asker c_askers u_places u_above u_below u_full u_firsts u_freed u_whole) (some (.int res.1)) (w_X8_asker res.2 u_places u_above u_below u_full u_firsts u_freed u_whole) := by
  refine Con.mk (show plainName RX8 = true by decide +kernel) (leb rfl) (fun κ ω A ad => ?_)
  change GG mu_X8_asker κ ω A (QR κ ω A ad (some (.int res.1)) (w_X8_asker res.2 u_places u_above u_below u_full u_firsts u_freed u_whole)) ad 0 0 0 (w_X8_asker c_askers u_places u_above u_below u_full u_firsts u_freed u_whole) [some (.ref 0)] []
  refine G_aload_n dX8_asker_0 rfl rfl ?_
  refine G_get (v := .int c_askers) F_X8_89 dX8_asker_1 rfl rfl ?_
  refine G_bipush 8 dX8_asker_4 (by decide) ?_
  refine G_icmp_ne 12 dX8_asker_6 (by decide) (fun h1 => ?_) (fun h1 => ?_)
  · replace hf := ob_f h1 hf
    refine G_aload_n dX8_asker_12 rfl rfl ?_
    refine G_dup dX8_asker_13 rfl ?_
    refine G_get (v := .int c_askers) F_X8_89 dX8_asker_14 rfl rfl ?_
    refine G_iconst 1 dX8_asker_17 (by decide) ?_
    refine G_iadd dX8_asker_18 ?_
    refine G_put (w2 := (w_X8_asker (c_askers + 1) u_places u_above u_below u_full u_firsts u_freed u_whole)) F_X8_89 dX8_asker_19 rfl rfl rfl (ltb rfl) rfl ?_
    refine G_aload_n dX8_asker_22 rfl rfl ?_
    refine G_get (v := .int (c_askers + 1)) F_X8_89 dX8_asker_23 rfl rfl ?_
    refine G_iconst 1 dX8_asker_26 (by decide) ?_
    refine G_isub dX8_asker_27 ?_
    obtain rfl := os hf
    exact G_ireturn dX8_asker_28 rfl
  · replace hf := ob_t h1 hf
    refine G_bipush (-4 : Int32) dX8_asker_9 (by decide) ?_
    obtain rfl := os hf
    exact G_ireturn dX8_asker_11 rfl
set_option maxRecDepth 20000 in
theorem dX8_place_0 : decode cX8_place 0 = .ok (.iload_n 1, 1) := by decide +kernel
set_option maxRecDepth 20000 in
theorem dX8_place_1 : decode cX8_place 1 = .ok (.iconst 1, 1) := by decide +kernel
set_option maxRecDepth 20000 in
theorem dX8_place_2 : decode cX8_place 2 = .ok (.iconst 3, 1) := by decide +kernel
set_option maxRecDepth 20000 in
theorem dX8_place_3 : decode cX8_place 3 = .ok (.invokestatic 93, 3) := by decide +kernel
set_option maxRecDepth 20000 in
theorem dX8_place_6 : decode cX8_place 6 = .ok (.ifCond .ne 6, 3) := by decide +kernel
set_option maxRecDepth 20000 in
theorem dX8_place_9 : decode cX8_place 9 = .ok (.bipush (-2), 2) := by decide +kernel
set_option maxRecDepth 20000 in
theorem dX8_place_11 : decode cX8_place 11 = .ok (.ireturn, 1) := by decide +kernel
set_option maxRecDepth 20000 in
theorem dX8_place_12 : decode cX8_place 12 = .ok (.aload_n 0, 1) := by decide +kernel
set_option maxRecDepth 20000 in
theorem dX8_place_13 : decode cX8_place 13 = .ok (.getfield 97, 3) := by decide +kernel
set_option maxRecDepth 20000 in
theorem dX8_place_16 : decode cX8_place 16 = .ok (.bipush 6, 2) := by decide +kernel
set_option maxRecDepth 20000 in
theorem dX8_place_18 : decode cX8_place 18 = .ok (.if_icmp .ne 6, 3) := by decide +kernel
set_option maxRecDepth 20000 in
theorem dX8_place_21 : decode cX8_place 21 = .ok (.bipush (-4), 2) := by decide +kernel
set_option maxRecDepth 20000 in
theorem dX8_place_23 : decode cX8_place 23 = .ok (.ireturn, 1) := by decide +kernel
set_option maxRecDepth 20000 in
theorem dX8_place_24 : decode cX8_place 24 = .ok (.aload_n 0, 1) := by decide +kernel
set_option maxRecDepth 20000 in
theorem dX8_place_25 : decode cX8_place 25 = .ok (.getfield 7, 3) := by decide +kernel
set_option maxRecDepth 20000 in
theorem dX8_place_28 : decode cX8_place 28 = .ok (.aload_n 0, 1) := by decide +kernel
set_option maxRecDepth 20000 in
theorem dX8_place_29 : decode cX8_place 29 = .ok (.getfield 97, 3) := by decide +kernel
set_option maxRecDepth 20000 in
theorem dX8_place_32 : decode cX8_place 32 = .ok (.iload_n 1, 1) := by decide +kernel
set_option maxRecDepth 20000 in
theorem dX8_place_33 : decode cX8_place 33 = .ok (.iastore, 1) := by decide +kernel
set_option maxRecDepth 20000 in
theorem dX8_place_34 : decode cX8_place 34 = .ok (.aload_n 0, 1) := by decide +kernel
set_option maxRecDepth 20000 in
theorem dX8_place_35 : decode cX8_place 35 = .ok (.dup, 1) := by decide +kernel
set_option maxRecDepth 20000 in
theorem dX8_place_36 : decode cX8_place 36 = .ok (.getfield 97, 3) := by decide +kernel
set_option maxRecDepth 20000 in
theorem dX8_place_39 : decode cX8_place 39 = .ok (.iconst 1, 1) := by decide +kernel
set_option maxRecDepth 20000 in
theorem dX8_place_40 : decode cX8_place 40 = .ok (.iadd, 1) := by decide +kernel
set_option maxRecDepth 20000 in
theorem dX8_place_41 : decode cX8_place 41 = .ok (.putfield 97, 3) := by decide +kernel
set_option maxRecDepth 20000 in
theorem dX8_place_44 : decode cX8_place 44 = .ok (.aload_n 0, 1) := by decide +kernel
set_option maxRecDepth 20000 in
theorem dX8_place_45 : decode cX8_place 45 = .ok (.getfield 97, 3) := by decide +kernel
set_option maxRecDepth 20000 in
theorem dX8_place_48 : decode cX8_place 48 = .ok (.iconst 1, 1) := by decide +kernel
set_option maxRecDepth 20000 in
theorem dX8_place_49 : decode cX8_place 49 = .ok (.isub, 1) := by decide +kernel
set_option maxRecDepth 20000 in
theorem dX8_place_50 : decode cX8_place 50 = .ok (.ireturn, 1) := by decide +kernel
def f_X8_place (N : Nat) (c_places : Int32) (c_seats : Nat → Int32) (a1 : Int32) : Option (Int32 × Int32 × (Nat → Int32)) :=
  (f_X8_in N a1 1 3).bind fun r1 =>
  (if r1 = 0 then
    some ((-2 : Int32), c_places, c_seats)
  else
    (if c_places = 6 then
      some ((-4 : Int32), c_places, c_seats)
    else
      (wrI 6 c_seats c_places a1).bind fun t5 =>
      some ((c_places + 1) - 1, c_places + 1, t5)))
set_option maxHeartbeats 4000000 in
set_option maxRecDepth 100000 in
theorem c_X8_place {N : Nat}  {c_places : Int32} {c_seats : Nat → Int32} {u_askers : Int32} {u_above : Int64} {u_below : Int64} {u_full : Int32} {u_firsts : Int32} {u_freed : Int32} {u_whole : Int64} {a1 : Int32} {res : Int32 × Int32 × (Nat → Int32)} (hf : f_X8_place N c_places c_seats a1 = some res) : Con mu_X8_place [.ref 0, .int a1] (w_X8_place c_places c_seats u_askers u_above u_below u_full u_firsts u_freed u_whole) (some (.int res.1)) (w_X8_place res.2.1 res.2.2 u_askers u_above u_below u_full u_firsts u_freed u_whole) := by
  refine Con.mk (show plainName RX8 = true by decide +kernel) (leb rfl) (fun κ ω A ad => ?_)
  change GG mu_X8_place κ ω A (QR κ ω A ad (some (.int res.1)) (w_X8_place res.2.1 res.2.2 u_askers u_above u_below u_full u_firsts u_freed u_whole)) ad 0 0 0 (w_X8_place c_places c_seats u_askers u_above u_below u_full u_firsts u_freed u_whole) [some (.ref 0), some (.int a1)] []
  refine G_iload_n dX8_place_0 rfl rfl ?_
  refine G_iconst 1 dX8_place_1 (by decide) ?_
  refine G_iconst 3 dX8_place_2 (by decide) ?_
  obtain ⟨r1, hc2, hf⟩ := ob hf
  refine G_callS (μ2 := mu_X8_in) (As := [.int a1, .int 1, .int 3]) (w2 := (w_X8_place c_places c_seats u_askers u_above u_below u_full u_firsts u_freed u_whole)) (wc := []) (wc2 := []) (rest := []) (rv := [.int r1]) [] [] [0, 1] [0, 1] (c_X8_in hc2) cw_X8_in m_X8_93 rfl dX8_place_3 rfl ⟨leb rfl, leb rfl⟩ ⟨rfl, rfl⟩ (Fit.mk rfl rfl rfl) rfl (leb rfl) (ROsub.nil rfl rfl) rfl ?_
  change GG _ _ _ _ _ _ _ _ _ (w_X8_place c_places c_seats u_askers u_above u_below u_full u_firsts u_freed u_whole) [some (.ref 0), some (.int a1)] [.int r1]
  refine G_if_ne 12 dX8_place_6 (by decide) (fun h3 => ?_) (fun h3 => ?_)
  · replace hf := ob_f h3 hf
    refine G_aload_n dX8_place_12 rfl rfl ?_
    refine G_get (v := .int c_places) F_X8_97 dX8_place_13 rfl rfl ?_
    refine G_bipush 6 dX8_place_16 (by decide) ?_
    refine G_icmp_ne 24 dX8_place_18 (by decide) (fun h4 => ?_) (fun h4 => ?_)
    · replace hf := ob_f h4 hf
      refine G_aload_n dX8_place_24 rfl rfl ?_
      refine G_get (v := .ref 1) F_X8_7 dX8_place_25 rfl rfl ?_
      refine G_aload_n dX8_place_28 rfl rfl ?_
      refine G_get (v := .int c_places) F_X8_97 dX8_place_29 rfl rfl ?_
      refine G_iload_n dX8_place_32 rfl rfl ?_
      obtain ⟨t5, ht5, hf⟩ := ob hf
      refine G_iast (w2 := (w_X8_place c_places t5 u_askers u_above u_below u_full u_firsts u_freed u_whole)) dX8_place_33 rfl ht5 rfl ?_
      refine G_aload_n dX8_place_34 rfl rfl ?_
      refine G_dup dX8_place_35 rfl ?_
      refine G_get (v := .int c_places) F_X8_97 dX8_place_36 rfl rfl ?_
      refine G_iconst 1 dX8_place_39 (by decide) ?_
      refine G_iadd dX8_place_40 ?_
      refine G_put (w2 := (w_X8_place (c_places + 1) t5 u_askers u_above u_below u_full u_firsts u_freed u_whole)) F_X8_97 dX8_place_41 rfl rfl rfl (ltb rfl) rfl ?_
      refine G_aload_n dX8_place_44 rfl rfl ?_
      refine G_get (v := .int (c_places + 1)) F_X8_97 dX8_place_45 rfl rfl ?_
      refine G_iconst 1 dX8_place_48 (by decide) ?_
      refine G_isub dX8_place_49 ?_
      obtain rfl := os hf
      exact G_ireturn dX8_place_50 rfl
    · replace hf := ob_t h4 hf
      refine G_bipush (-4 : Int32) dX8_place_21 (by decide) ?_
      obtain rfl := os hf
      exact G_ireturn dX8_place_23 rfl
  · replace hf := ob_t h3 hf
    refine G_bipush (-2 : Int32) dX8_place_9 (by decide) ?_
    obtain rfl := os hf
    exact G_ireturn dX8_place_11 rfl
set_option maxRecDepth 20000 in
theorem dX8_had_0 : decode cX8_had 0 = .ok (.iconst 0, 1) := by decide +kernel
set_option maxRecDepth 20000 in
theorem dX8_had_1 : decode cX8_had 1 = .ok (.istore_n 3, 1) := by decide +kernel
set_option maxRecDepth 20000 in
theorem dX8_had_2 : decode cX8_had 2 = .ok (.iconst 0, 1) := by decide +kernel
set_option maxRecDepth 20000 in
theorem dX8_had_3 : decode cX8_had 3 = .ok (.istore 4, 2) := by decide +kernel
set_option maxRecDepth 20000 in
theorem dX8_had_5 : decode cX8_had 5 = .ok (.iload 4, 2) := by decide +kernel
set_option maxRecDepth 20000 in
theorem dX8_had_7 : decode cX8_had 7 = .ok (.aload_n 0, 1) := by decide +kernel
set_option maxRecDepth 20000 in
theorem dX8_had_8 : decode cX8_had 8 = .ok (.getfield 89, 3) := by decide +kernel
set_option maxRecDepth 20000 in
theorem dX8_had_11 : decode cX8_had 11 = .ok (.if_icmp .ge 35, 3) := by decide +kernel
set_option maxRecDepth 20000 in
theorem dX8_had_14 : decode cX8_had 14 = .ok (.iload_n 3, 1) := by decide +kernel
set_option maxRecDepth 20000 in
theorem dX8_had_15 : decode cX8_had 15 = .ok (.aload_n 0, 1) := by decide +kernel
set_option maxRecDepth 20000 in
theorem dX8_had_16 : decode cX8_had 16 = .ok (.getfield 16, 3) := by decide +kernel
set_option maxRecDepth 20000 in
theorem dX8_had_19 : decode cX8_had 19 = .ok (.bipush 8, 2) := by decide +kernel
set_option maxRecDepth 20000 in
theorem dX8_had_21 : decode cX8_had 21 = .ok (.iload_n 1, 1) := by decide +kernel
set_option maxRecDepth 20000 in
theorem dX8_had_22 : decode cX8_had 22 = .ok (.imul, 1) := by decide +kernel
set_option maxRecDepth 20000 in
theorem dX8_had_23 : decode cX8_had 23 = .ok (.iload 4, 2) := by decide +kernel
set_option maxRecDepth 20000 in
theorem dX8_had_25 : decode cX8_had 25 = .ok (.iadd, 1) := by decide +kernel
set_option maxRecDepth 20000 in
theorem dX8_had_26 : decode cX8_had 26 = .ok (.iaload, 1) := by decide +kernel
set_option maxRecDepth 20000 in
theorem dX8_had_27 : decode cX8_had 27 = .ok (.iload_n 2, 1) := by decide +kernel
set_option maxRecDepth 20000 in
theorem dX8_had_28 : decode cX8_had 28 = .ok (.iconst 1, 1) := by decide +kernel
set_option maxRecDepth 20000 in
theorem dX8_had_29 : decode cX8_had 29 = .ok (.iadd, 1) := by decide +kernel
set_option maxRecDepth 20000 in
theorem dX8_had_30 : decode cX8_had 30 = .ok (.if_icmp .ne 7, 3) := by decide +kernel
set_option maxRecDepth 20000 in
theorem dX8_had_33 : decode cX8_had 33 = .ok (.iconst 1, 1) := by decide +kernel
set_option maxRecDepth 20000 in
theorem dX8_had_34 : decode cX8_had 34 = .ok (.goto 4, 3) := by decide +kernel
set_option maxRecDepth 20000 in
theorem dX8_had_37 : decode cX8_had 37 = .ok (.iconst 0, 1) := by decide +kernel
set_option maxRecDepth 20000 in
theorem dX8_had_38 : decode cX8_had 38 = .ok (.iadd, 1) := by decide +kernel
set_option maxRecDepth 20000 in
theorem dX8_had_39 : decode cX8_had 39 = .ok (.istore_n 3, 1) := by decide +kernel
set_option maxRecDepth 20000 in
theorem dX8_had_40 : decode cX8_had 40 = .ok (.iinc 4 1, 3) := by decide +kernel
set_option maxRecDepth 20000 in
theorem dX8_had_43 : decode cX8_had 43 = .ok (.goto (-38), 3) := by decide +kernel
set_option maxRecDepth 20000 in
theorem dX8_had_46 : decode cX8_had 46 = .ok (.iload_n 3, 1) := by decide +kernel
set_option maxRecDepth 20000 in
theorem dX8_had_47 : decode cX8_had 47 = .ok (.ireturn, 1) := by decide +kernel
def f_X8_had_5 (N : Nat) (c_askers : Int32) (c_told : Nat → Int32) : Nat → Int32 → Int32 → Int32 → Int32 → Option (Int32)
  | 0, _, _, _, _ => none
  | n + 1, v1, v2, v3, v4 =>
    (if c_askers ≤ v4 then
      some v3
    else
      (rdI 32 c_told ((8 * v1) + v4)).bind fun t2 =>
      (if t2 = (v2 + 1) then
        f_X8_had_5 N c_askers c_told n v1 v2 (v3 + 1) (v4 + 1)
      else
        f_X8_had_5 N c_askers c_told n v1 v2 (v3 + 0) (v4 + 1)))
set_option maxHeartbeats 4000000 in
set_option maxRecDepth 100000 in
theorem g_X8_had_5 {κ : KC} {ω : KW} {A : Nat → Prop} {ad : Nat → Nat} {u_places : Int32} {u_above : Int64} {u_below : Int64} {u_full : Int32} {u_firsts : Int32} {u_freed : Int32} {u_whole : Int64} {N : Nat} {c_askers : Int32} {c_told : Nat → Int32}  {res : Int32} : ∀ (n : Nat) {v1 : Int32} {v2 : Int32} {v3 : Int32} {v4 : Int32}, f_X8_had_5 N c_askers c_told n v1 v2 v3 v4 = some res → GG mu_X8_had κ ω A (QR κ ω A ad (some (.int res)) (w_X8_had c_askers c_told u_places u_above u_below u_full u_firsts u_freed u_whole)) ad 0 0 5 (w_X8_had c_askers c_told u_places u_above u_below u_full u_firsts u_freed u_whole) [some (.ref 0), some (.int v1), some (.int v2), some (.int v3), some (.int v4)] [] := by
  intro n
  induction n with
  | zero => intro v1 v2 v3 v4 hf; exact ob_0 hf
  | succ n ih =>
    intro v1 v2 v3 v4 hf
    refine G_iload dX8_had_5 rfl ?_
    refine G_aload_n dX8_had_7 rfl rfl ?_
    refine G_get (v := .int c_askers) F_X8_89 dX8_had_8 rfl rfl ?_
    refine G_icmp_ge 46 dX8_had_11 (by decide) (fun h1 => ?_) (fun h1 => ?_)
    · replace hf := ob_t h1 hf
      refine G_iload_n dX8_had_46 rfl rfl ?_
      obtain rfl := os hf
      exact G_ireturn dX8_had_47 rfl
    · replace hf := ob_f h1 hf
      refine G_iload_n dX8_had_14 rfl rfl ?_
      refine G_aload_n dX8_had_15 rfl rfl ?_
      refine G_get (v := .ref 1) F_X8_16 dX8_had_16 rfl rfl ?_
      refine G_bipush 8 dX8_had_19 (by decide) ?_
      refine G_iload_n dX8_had_21 rfl rfl ?_
      refine G_imul dX8_had_22 ?_
      refine G_iload dX8_had_23 rfl ?_
      refine G_iadd dX8_had_25 ?_
      obtain ⟨t2, ht2, hf⟩ := ob hf
      refine G_iald dX8_had_26 rfl ht2 ?_
      refine G_iload_n dX8_had_27 rfl rfl ?_
      refine G_iconst 1 dX8_had_28 (by decide) ?_
      refine G_iadd dX8_had_29 ?_
      refine G_icmp_ne 37 dX8_had_30 (by decide) (fun h3 => ?_) (fun h3 => ?_)
      · replace hf := ob_f h3 hf
        refine G_iconst 0 dX8_had_37 (by decide) ?_
        refine G_iadd dX8_had_38 ?_
        refine G_istore_n dX8_had_39 rfl (ltb rfl) ?_
        change GG _ _ _ _ _ _ _ _ _ _ [some (.ref 0), some (.int v1), some (.int v2), some (.int (v3 + 0)), some (.int v4)] _
        refine G_iinc 1 dX8_had_40 (by decide) rfl (ltb rfl) ?_
        change GG _ _ _ _ _ _ _ _ _ _ [some (.ref 0), some (.int v1), some (.int v2), some (.int (v3 + 0)), some (.int (v4 + 1))] _
        refine G_goto 5 dX8_had_43 (by decide) ?_
        exact ih hf
      · replace hf := ob_t h3 hf
        refine G_iconst 1 dX8_had_33 (by decide) ?_
        refine G_goto 38 dX8_had_34 (by decide) ?_
        refine G_iadd dX8_had_38 ?_
        refine G_istore_n dX8_had_39 rfl (ltb rfl) ?_
        change GG _ _ _ _ _ _ _ _ _ _ [some (.ref 0), some (.int v1), some (.int v2), some (.int (v3 + 1)), some (.int v4)] _
        refine G_iinc 1 dX8_had_40 (by decide) rfl (ltb rfl) ?_
        change GG _ _ _ _ _ _ _ _ _ _ [some (.ref 0), some (.int v1), some (.int v2), some (.int (v3 + 1)), some (.int (v4 + 1))] _
        refine G_goto 5 dX8_had_43 (by decide) ?_
        exact ih hf
def f_X8_had (N : Nat) (c_askers : Int32) (c_told : Nat → Int32) (a1 : Int32) (a2 : Int32) : Option (Int32) :=
  f_X8_had_5 N c_askers c_told N a1 a2 0 0
set_option maxHeartbeats 4000000 in
set_option maxRecDepth 100000 in
theorem c_X8_had {N : Nat} {c_askers : Int32} {c_told : Nat → Int32}  {u_places : Int32} {u_above : Int64} {u_below : Int64} {u_full : Int32} {u_firsts : Int32} {u_freed : Int32} {u_whole : Int64} {a1 : Int32} {a2 : Int32} {res : Int32} (hf : f_X8_had N c_askers c_told a1 a2 = some res) : Con mu_X8_had [.ref 0, .int a1, .int a2] (w_X8_had c_askers c_told u_places u_above u_below u_full u_firsts u_freed u_whole) (some (.int res)) (w_X8_had c_askers c_told u_places u_above u_below u_full u_firsts u_freed u_whole) := by
  refine Con.mk (show plainName RX8 = true by decide +kernel) (leb rfl) (fun κ ω A ad => ?_)
  change GG mu_X8_had κ ω A (QR κ ω A ad (some (.int res)) (w_X8_had c_askers c_told u_places u_above u_below u_full u_firsts u_freed u_whole)) ad 0 0 0 (w_X8_had c_askers c_told u_places u_above u_below u_full u_firsts u_freed u_whole) [some (.ref 0), some (.int a1), some (.int a2), none, none] []
  refine G_iconst 0 dX8_had_0 (by decide) ?_
  refine G_istore_n dX8_had_1 rfl (ltb rfl) ?_
  change GG _ _ _ _ _ _ _ _ _ _ [some (.ref 0), some (.int a1), some (.int a2), some (.int 0), none] _
  refine G_iconst 0 dX8_had_2 (by decide) ?_
  refine G_istore dX8_had_3 (ltb rfl) ?_
  change GG _ _ _ _ _ _ _ _ _ _ [some (.ref 0), some (.int a1), some (.int a2), some (.int 0), some (.int 0)] _
  exact g_X8_had_5 N hf
set_option maxRecDepth 20000 in
theorem dX8_seats_0 : decode cX8_seats 0 = .ok (.aload_n 0, 1) := by decide +kernel
set_option maxRecDepth 20000 in
theorem dX8_seats_1 : decode cX8_seats 1 = .ok (.iload_n 1, 1) := by decide +kernel
set_option maxRecDepth 20000 in
theorem dX8_seats_2 : decode cX8_seats 2 = .ok (.invokevirtual 100, 3) := by decide +kernel
set_option maxRecDepth 20000 in
theorem dX8_seats_5 : decode cX8_seats 5 = .ok (.ifCond .eq 12, 3) := by decide +kernel
set_option maxRecDepth 20000 in
theorem dX8_seats_8 : decode cX8_seats 8 = .ok (.iload_n 2, 1) := by decide +kernel
set_option maxRecDepth 20000 in
theorem dX8_seats_9 : decode cX8_seats 9 = .ok (.iconst 1, 1) := by decide +kernel
set_option maxRecDepth 20000 in
theorem dX8_seats_10 : decode cX8_seats 10 = .ok (.iconst 3, 1) := by decide +kernel
set_option maxRecDepth 20000 in
theorem dX8_seats_11 : decode cX8_seats 11 = .ok (.invokestatic 93, 3) := by decide +kernel
set_option maxRecDepth 20000 in
theorem dX8_seats_14 : decode cX8_seats 14 = .ok (.ifCond .ne 6, 3) := by decide +kernel
set_option maxRecDepth 20000 in
theorem dX8_seats_17 : decode cX8_seats 17 = .ok (.bipush (-2), 2) := by decide +kernel
set_option maxRecDepth 20000 in
theorem dX8_seats_19 : decode cX8_seats 19 = .ok (.ireturn, 1) := by decide +kernel
set_option maxRecDepth 20000 in
theorem dX8_seats_20 : decode cX8_seats 20 = .ok (.iconst 0, 1) := by decide +kernel
set_option maxRecDepth 20000 in
theorem dX8_seats_21 : decode cX8_seats 21 = .ok (.istore_n 3, 1) := by decide +kernel
set_option maxRecDepth 20000 in
theorem dX8_seats_22 : decode cX8_seats 22 = .ok (.iload_n 3, 1) := by decide +kernel
set_option maxRecDepth 20000 in
theorem dX8_seats_23 : decode cX8_seats 23 = .ok (.iconst 4, 1) := by decide +kernel
set_option maxRecDepth 20000 in
theorem dX8_seats_24 : decode cX8_seats 24 = .ok (.if_icmp .ge 22, 3) := by decide +kernel
set_option maxRecDepth 20000 in
theorem dX8_seats_27 : decode cX8_seats 27 = .ok (.aload_n 0, 1) := by decide +kernel
set_option maxRecDepth 20000 in
theorem dX8_seats_28 : decode cX8_seats 28 = .ok (.iload_n 3, 1) := by decide +kernel
set_option maxRecDepth 20000 in
theorem dX8_seats_29 : decode cX8_seats 29 = .ok (.iload_n 1, 1) := by decide +kernel
set_option maxRecDepth 20000 in
theorem dX8_seats_30 : decode cX8_seats 30 = .ok (.invokevirtual 104, 3) := by decide +kernel
set_option maxRecDepth 20000 in
theorem dX8_seats_33 : decode cX8_seats 33 = .ok (.iload_n 2, 1) := by decide +kernel
set_option maxRecDepth 20000 in
theorem dX8_seats_34 : decode cX8_seats 34 = .ok (.if_icmp .le 6, 3) := by decide +kernel
set_option maxRecDepth 20000 in
theorem dX8_seats_37 : decode cX8_seats 37 = .ok (.bipush (-3), 2) := by decide +kernel
set_option maxRecDepth 20000 in
theorem dX8_seats_39 : decode cX8_seats 39 = .ok (.ireturn, 1) := by decide +kernel
set_option maxRecDepth 20000 in
theorem dX8_seats_40 : decode cX8_seats 40 = .ok (.iinc 3 1, 3) := by decide +kernel
set_option maxRecDepth 20000 in
theorem dX8_seats_43 : decode cX8_seats 43 = .ok (.goto (-21), 3) := by decide +kernel
set_option maxRecDepth 20000 in
theorem dX8_seats_46 : decode cX8_seats 46 = .ok (.aload_n 0, 1) := by decide +kernel
set_option maxRecDepth 20000 in
theorem dX8_seats_47 : decode cX8_seats 47 = .ok (.getfield 7, 3) := by decide +kernel
set_option maxRecDepth 20000 in
theorem dX8_seats_50 : decode cX8_seats 50 = .ok (.iload_n 1, 1) := by decide +kernel
set_option maxRecDepth 20000 in
theorem dX8_seats_51 : decode cX8_seats 51 = .ok (.iaload, 1) := by decide +kernel
set_option maxRecDepth 20000 in
theorem dX8_seats_52 : decode cX8_seats 52 = .ok (.istore_n 3, 1) := by decide +kernel
set_option maxRecDepth 20000 in
theorem dX8_seats_53 : decode cX8_seats 53 = .ok (.aload_n 0, 1) := by decide +kernel
set_option maxRecDepth 20000 in
theorem dX8_seats_54 : decode cX8_seats 54 = .ok (.getfield 7, 3) := by decide +kernel
set_option maxRecDepth 20000 in
theorem dX8_seats_57 : decode cX8_seats 57 = .ok (.iload_n 1, 1) := by decide +kernel
set_option maxRecDepth 20000 in
theorem dX8_seats_58 : decode cX8_seats 58 = .ok (.iload_n 2, 1) := by decide +kernel
set_option maxRecDepth 20000 in
theorem dX8_seats_59 : decode cX8_seats 59 = .ok (.iastore, 1) := by decide +kernel
set_option maxRecDepth 20000 in
theorem dX8_seats_60 : decode cX8_seats 60 = .ok (.iload_n 3, 1) := by decide +kernel
set_option maxRecDepth 20000 in
theorem dX8_seats_61 : decode cX8_seats 61 = .ok (.ireturn, 1) := by decide +kernel
def f_X8_seats_22 (N : Nat) (c_askers : Int32) (c_places : Int32) (c_told : Nat → Int32) : Nat → (Nat → Int32) → Int32 → Int32 → Int32 → Option (Int32 × (Nat → Int32))
  | 0, _, _, _, _ => none
  | n + 1, c_seats, v1, v2, v3 =>
    (if 4 ≤ v3 then
      (rdI 6 c_seats v1).bind fun t2 =>
      (wrI 6 c_seats v1 v2).bind fun t3 =>
      some (t2, t3)
    else
      (f_X8_had N c_askers c_told v3 v1).bind fun r4 =>
      (if r4 ≤ v2 then
        f_X8_seats_22 N c_askers c_places c_told n c_seats v1 v2 (v3 + 1)
      else
        some ((-3 : Int32), c_seats)))
set_option maxHeartbeats 4000000 in
set_option maxRecDepth 100000 in
theorem g_X8_seats_22 {κ : KC} {ω : KW} {A : Nat → Prop} {ad : Nat → Nat} {u_above : Int64} {u_below : Int64} {u_full : Int32} {u_firsts : Int32} {u_freed : Int32} {u_whole : Int64} {N : Nat} {c_askers : Int32} {c_places : Int32} {c_told : Nat → Int32}  {res : Int32 × (Nat → Int32)} : ∀ (n : Nat) {c_seats : Nat → Int32} {v1 : Int32} {v2 : Int32} {v3 : Int32}, f_X8_seats_22 N c_askers c_places c_told n c_seats v1 v2 v3 = some res → GG mu_X8_seats κ ω A (QR κ ω A ad (some (.int res.1)) (w_X8_seats c_askers c_places res.2 c_told u_above u_below u_full u_firsts u_freed u_whole)) ad 0 0 22 (w_X8_seats c_askers c_places c_seats c_told u_above u_below u_full u_firsts u_freed u_whole) [some (.ref 0), some (.int v1), some (.int v2), some (.int v3)] [] := by
  intro n
  induction n with
  | zero => intro c_seats v1 v2 v3 hf; exact ob_0 hf
  | succ n ih =>
    intro c_seats v1 v2 v3 hf
    refine G_iload_n dX8_seats_22 rfl rfl ?_
    refine G_iconst 4 dX8_seats_23 (by decide) ?_
    refine G_icmp_ge 46 dX8_seats_24 (by decide) (fun h1 => ?_) (fun h1 => ?_)
    · replace hf := ob_t h1 hf
      refine G_aload_n dX8_seats_46 rfl rfl ?_
      refine G_get (v := .ref 1) F_X8_7 dX8_seats_47 rfl rfl ?_
      refine G_iload_n dX8_seats_50 rfl rfl ?_
      obtain ⟨t2, ht2, hf⟩ := ob hf
      refine G_iald dX8_seats_51 rfl ht2 ?_
      refine G_istore_n dX8_seats_52 rfl (ltb rfl) ?_
      change GG _ _ _ _ _ _ _ _ _ _ [some (.ref 0), some (.int v1), some (.int v2), some (.int t2)] _
      refine G_aload_n dX8_seats_53 rfl rfl ?_
      refine G_get (v := .ref 1) F_X8_7 dX8_seats_54 rfl rfl ?_
      refine G_iload_n dX8_seats_57 rfl rfl ?_
      refine G_iload_n dX8_seats_58 rfl rfl ?_
      obtain ⟨t3, ht3, hf⟩ := ob hf
      refine G_iast (w2 := (w_X8_seats c_askers c_places t3 c_told u_above u_below u_full u_firsts u_freed u_whole)) dX8_seats_59 rfl ht3 rfl ?_
      refine G_iload_n dX8_seats_60 rfl rfl ?_
      obtain rfl := os hf
      exact G_ireturn dX8_seats_61 rfl
    · replace hf := ob_f h1 hf
      refine G_aload_n dX8_seats_27 rfl rfl ?_
      refine G_iload_n dX8_seats_28 rfl rfl ?_
      refine G_iload_n dX8_seats_29 rfl rfl ?_
      obtain ⟨r4, hc5, hf⟩ := ob hf
      refine G_callV (μ2 := mu_X8_had) (As := [.int v3, .int v1]) (w2 := (w_X8_seats c_askers c_places c_seats c_told u_above u_below u_full u_firsts u_freed u_whole)) (wc := (w_X8_had c_askers c_told c_places u_above u_below u_full u_firsts u_freed u_whole)) (wc2 := (w_X8_had c_askers c_told c_places u_above u_below u_full u_firsts u_freed u_whole)) (rest := []) (rv := [.int r4]) [0, 2] [1, 1000, 1001, 1002, 1003, 1004, 1005, 1006, 1007, 1008, 1009, 1010, 1011, 1012, 1013, 1014, 1015, 1016, 1017, 1018] [1] [1, 0, 2] (c_X8_had hc5) cw_X8_had m_X8_104 dX8_seats_30 rfl ⟨leb rfl, leb rfl⟩ ⟨rfl, rfl⟩ rfl ⟨_, rfl, rfl⟩ (Fit.mk rfl rfl rfl) rfl (leb rfl) (ROsub.nil rfl rfl) rfl ?_
      change GG _ _ _ _ _ _ _ _ _ (w_X8_seats c_askers c_places c_seats c_told u_above u_below u_full u_firsts u_freed u_whole) [some (.ref 0), some (.int v1), some (.int v2), some (.int v3)] [.int r4]
      refine G_iload_n dX8_seats_33 rfl rfl ?_
      refine G_icmp_le 40 dX8_seats_34 (by decide) (fun h6 => ?_) (fun h6 => ?_)
      · replace hf := ob_t h6 hf
        refine G_iinc 1 dX8_seats_40 (by decide) rfl (ltb rfl) ?_
        change GG _ _ _ _ _ _ _ _ _ _ [some (.ref 0), some (.int v1), some (.int v2), some (.int (v3 + 1))] _
        refine G_goto 22 dX8_seats_43 (by decide) ?_
        exact ih hf
      · replace hf := ob_f h6 hf
        refine G_bipush (-3 : Int32) dX8_seats_37 (by decide) ?_
        obtain rfl := os hf
        exact G_ireturn dX8_seats_39 rfl
def f_X8_seats (N : Nat) (c_askers : Int32) (c_places : Int32) (c_told : Nat → Int32) (c_seats : Nat → Int32) (a1 : Int32) (a2 : Int32) : Option (Int32 × (Nat → Int32)) :=
  (f_X8_isPlace N c_places a1).bind fun r1 =>
  (if r1 = 0 then
    some ((-2 : Int32), c_seats)
  else
    (f_X8_in N a2 1 3).bind fun r4 =>
    (if r4 = 0 then
      some ((-2 : Int32), c_seats)
    else
      f_X8_seats_22 N c_askers c_places c_told N c_seats a1 a2 0))
set_option maxHeartbeats 4000000 in
set_option maxRecDepth 100000 in
theorem c_X8_seats {N : Nat} {c_askers : Int32} {c_places : Int32} {c_told : Nat → Int32} {c_seats : Nat → Int32} {u_above : Int64} {u_below : Int64} {u_full : Int32} {u_firsts : Int32} {u_freed : Int32} {u_whole : Int64} {a1 : Int32} {a2 : Int32} {res : Int32 × (Nat → Int32)} (hf : f_X8_seats N c_askers c_places c_told c_seats a1 a2 = some res) : Con mu_X8_seats [.ref 0, .int a1, .int a2] (w_X8_seats c_askers c_places c_seats c_told u_above u_below u_full u_firsts u_freed u_whole) (some (.int res.1)) (w_X8_seats c_askers c_places res.2 c_told u_above u_below u_full u_firsts u_freed u_whole) := by
  refine Con.mk (show plainName RX8 = true by decide +kernel) (leb rfl) (fun κ ω A ad => ?_)
  change GG mu_X8_seats κ ω A (QR κ ω A ad (some (.int res.1)) (w_X8_seats c_askers c_places res.2 c_told u_above u_below u_full u_firsts u_freed u_whole)) ad 0 0 0 (w_X8_seats c_askers c_places c_seats c_told u_above u_below u_full u_firsts u_freed u_whole) [some (.ref 0), some (.int a1), some (.int a2), none] []
  refine G_aload_n dX8_seats_0 rfl rfl ?_
  refine G_iload_n dX8_seats_1 rfl rfl ?_
  obtain ⟨r1, hc2, hf⟩ := ob hf
  refine G_callV (μ2 := mu_X8_isPlace) (As := [.int a1]) (w2 := (w_X8_seats c_askers c_places c_seats c_told u_above u_below u_full u_firsts u_freed u_whole)) (wc := (w_X8_isPlace c_places c_askers u_above u_below u_full u_firsts u_freed u_whole)) (wc2 := (w_X8_isPlace c_places c_askers u_above u_below u_full u_firsts u_freed u_whole)) (rest := []) (rv := [.int r1]) [0] [1, 1000, 2, 1001, 1002, 1003, 1004, 1005, 1006, 1007, 1008, 1009, 1010, 1011, 1012, 1013, 1014, 1015, 1016, 1017, 1018] [1, 2] [2, 0, 1] (c_X8_isPlace hc2) cw_X8_isPlace m_X8_100 dX8_seats_2 rfl ⟨leb rfl, leb rfl⟩ ⟨rfl, rfl⟩ rfl ⟨_, rfl, rfl⟩ (Fit.mk rfl rfl rfl) rfl (leb rfl) (ROsub.nil rfl rfl) rfl ?_
  change GG _ _ _ _ _ _ _ _ _ (w_X8_seats c_askers c_places c_seats c_told u_above u_below u_full u_firsts u_freed u_whole) [some (.ref 0), some (.int a1), some (.int a2), none] [.int r1]
  refine G_if_eq 17 dX8_seats_5 (by decide) (fun h3 => ?_) (fun h3 => ?_)
  · replace hf := ob_t h3 hf
    refine G_bipush (-2 : Int32) dX8_seats_17 (by decide) ?_
    obtain rfl := os hf
    exact G_ireturn dX8_seats_19 rfl
  · replace hf := ob_f h3 hf
    refine G_iload_n dX8_seats_8 rfl rfl ?_
    refine G_iconst 1 dX8_seats_9 (by decide) ?_
    refine G_iconst 3 dX8_seats_10 (by decide) ?_
    obtain ⟨r4, hc5, hf⟩ := ob hf
    refine G_callS (μ2 := mu_X8_in) (As := [.int a2, .int 1, .int 3]) (w2 := (w_X8_seats c_askers c_places c_seats c_told u_above u_below u_full u_firsts u_freed u_whole)) (wc := []) (wc2 := []) (rest := []) (rv := [.int r4]) [] [] [0, 1, 2] [0, 1, 2] (c_X8_in hc5) cw_X8_in m_X8_93 rfl dX8_seats_11 rfl ⟨leb rfl, leb rfl⟩ ⟨rfl, rfl⟩ (Fit.mk rfl rfl rfl) rfl (leb rfl) (ROsub.nil rfl rfl) rfl ?_
    change GG _ _ _ _ _ _ _ _ _ (w_X8_seats c_askers c_places c_seats c_told u_above u_below u_full u_firsts u_freed u_whole) [some (.ref 0), some (.int a1), some (.int a2), none] [.int r4]
    refine G_if_ne 20 dX8_seats_14 (by decide) (fun h6 => ?_) (fun h6 => ?_)
    · replace hf := ob_f h6 hf
      refine G_iconst 0 dX8_seats_20 (by decide) ?_
      refine G_istore_n dX8_seats_21 rfl (ltb rfl) ?_
      change GG _ _ _ _ _ _ _ _ _ _ [some (.ref 0), some (.int a1), some (.int a2), some (.int 0)] _
      exact g_X8_seats_22 N hf
    · replace hf := ob_t h6 hf
      refine G_bipush (-2 : Int32) dX8_seats_17 (by decide) ?_
      obtain rfl := os hf
      exact G_ireturn dX8_seats_19 rfl
set_option maxRecDepth 20000 in
theorem dX8_wish_0 : decode cX8_wish 0 = .ok (.aload_n 0, 1) := by decide +kernel
set_option maxRecDepth 20000 in
theorem dX8_wish_1 : decode cX8_wish 1 = .ok (.iload_n 1, 1) := by decide +kernel
set_option maxRecDepth 20000 in
theorem dX8_wish_2 : decode cX8_wish 2 = .ok (.invokevirtual 108, 3) := by decide +kernel
set_option maxRecDepth 20000 in
theorem dX8_wish_5 : decode cX8_wish 5 = .ok (.ifCond .eq 21, 3) := by decide +kernel
set_option maxRecDepth 20000 in
theorem dX8_wish_8 : decode cX8_wish 8 = .ok (.aload_n 0, 1) := by decide +kernel
set_option maxRecDepth 20000 in
theorem dX8_wish_9 : decode cX8_wish 9 = .ok (.iload_n 2, 1) := by decide +kernel
set_option maxRecDepth 20000 in
theorem dX8_wish_10 : decode cX8_wish 10 = .ok (.invokevirtual 100, 3) := by decide +kernel
set_option maxRecDepth 20000 in
theorem dX8_wish_13 : decode cX8_wish 13 = .ok (.ifCond .eq 13, 3) := by decide +kernel
set_option maxRecDepth 20000 in
theorem dX8_wish_16 : decode cX8_wish 16 = .ok (.iload_n 3, 1) := by decide +kernel
set_option maxRecDepth 20000 in
theorem dX8_wish_17 : decode cX8_wish 17 = .ok (.iconst 0, 1) := by decide +kernel
set_option maxRecDepth 20000 in
theorem dX8_wish_18 : decode cX8_wish 18 = .ok (.bipush 6, 2) := by decide +kernel
set_option maxRecDepth 20000 in
theorem dX8_wish_20 : decode cX8_wish 20 = .ok (.invokestatic 93, 3) := by decide +kernel
set_option maxRecDepth 20000 in
theorem dX8_wish_23 : decode cX8_wish 23 = .ok (.ifCond .ne 6, 3) := by decide +kernel
set_option maxRecDepth 20000 in
theorem dX8_wish_26 : decode cX8_wish 26 = .ok (.bipush (-2), 2) := by decide +kernel
set_option maxRecDepth 20000 in
theorem dX8_wish_28 : decode cX8_wish 28 = .ok (.ireturn, 1) := by decide +kernel
set_option maxRecDepth 20000 in
theorem dX8_wish_29 : decode cX8_wish 29 = .ok (.aload_n 0, 1) := by decide +kernel
set_option maxRecDepth 20000 in
theorem dX8_wish_30 : decode cX8_wish 30 = .ok (.getfield 13, 3) := by decide +kernel
set_option maxRecDepth 20000 in
theorem dX8_wish_33 : decode cX8_wish 33 = .ok (.bipush 6, 2) := by decide +kernel
set_option maxRecDepth 20000 in
theorem dX8_wish_35 : decode cX8_wish 35 = .ok (.iload_n 1, 1) := by decide +kernel
set_option maxRecDepth 20000 in
theorem dX8_wish_36 : decode cX8_wish 36 = .ok (.imul, 1) := by decide +kernel
set_option maxRecDepth 20000 in
theorem dX8_wish_37 : decode cX8_wish 37 = .ok (.iload_n 2, 1) := by decide +kernel
set_option maxRecDepth 20000 in
theorem dX8_wish_38 : decode cX8_wish 38 = .ok (.iadd, 1) := by decide +kernel
set_option maxRecDepth 20000 in
theorem dX8_wish_39 : decode cX8_wish 39 = .ok (.iaload, 1) := by decide +kernel
set_option maxRecDepth 20000 in
theorem dX8_wish_40 : decode cX8_wish 40 = .ok (.istore 4, 2) := by decide +kernel
set_option maxRecDepth 20000 in
theorem dX8_wish_42 : decode cX8_wish 42 = .ok (.aload_n 0, 1) := by decide +kernel
set_option maxRecDepth 20000 in
theorem dX8_wish_43 : decode cX8_wish 43 = .ok (.getfield 13, 3) := by decide +kernel
set_option maxRecDepth 20000 in
theorem dX8_wish_46 : decode cX8_wish 46 = .ok (.bipush 6, 2) := by decide +kernel
set_option maxRecDepth 20000 in
theorem dX8_wish_48 : decode cX8_wish 48 = .ok (.iload_n 1, 1) := by decide +kernel
set_option maxRecDepth 20000 in
theorem dX8_wish_49 : decode cX8_wish 49 = .ok (.imul, 1) := by decide +kernel
set_option maxRecDepth 20000 in
theorem dX8_wish_50 : decode cX8_wish 50 = .ok (.iload_n 2, 1) := by decide +kernel
set_option maxRecDepth 20000 in
theorem dX8_wish_51 : decode cX8_wish 51 = .ok (.iadd, 1) := by decide +kernel
set_option maxRecDepth 20000 in
theorem dX8_wish_52 : decode cX8_wish 52 = .ok (.iload_n 3, 1) := by decide +kernel
set_option maxRecDepth 20000 in
theorem dX8_wish_53 : decode cX8_wish 53 = .ok (.iastore, 1) := by decide +kernel
set_option maxRecDepth 20000 in
theorem dX8_wish_54 : decode cX8_wish 54 = .ok (.iconst 0, 1) := by decide +kernel
set_option maxRecDepth 20000 in
theorem dX8_wish_55 : decode cX8_wish 55 = .ok (.istore 5, 2) := by decide +kernel
set_option maxRecDepth 20000 in
theorem dX8_wish_57 : decode cX8_wish 57 = .ok (.iload 5, 2) := by decide +kernel
set_option maxRecDepth 20000 in
theorem dX8_wish_59 : decode cX8_wish 59 = .ok (.iconst 4, 1) := by decide +kernel
set_option maxRecDepth 20000 in
theorem dX8_wish_60 : decode cX8_wish 60 = .ok (.if_icmp .ge 59, 3) := by decide +kernel
set_option maxRecDepth 20000 in
theorem dX8_wish_63 : decode cX8_wish 63 = .ok (.iload_n 3, 1) := by decide +kernel
set_option maxRecDepth 20000 in
theorem dX8_wish_64 : decode cX8_wish 64 = .ok (.ifCond .ne 55, 3) := by decide +kernel
set_option maxRecDepth 20000 in
theorem dX8_wish_67 : decode cX8_wish 67 = .ok (.aload_n 0, 1) := by decide +kernel
set_option maxRecDepth 20000 in
theorem dX8_wish_68 : decode cX8_wish 68 = .ok (.getfield 16, 3) := by decide +kernel
set_option maxRecDepth 20000 in
theorem dX8_wish_71 : decode cX8_wish 71 = .ok (.bipush 8, 2) := by decide +kernel
set_option maxRecDepth 20000 in
theorem dX8_wish_73 : decode cX8_wish 73 = .ok (.iload 5, 2) := by decide +kernel
set_option maxRecDepth 20000 in
theorem dX8_wish_75 : decode cX8_wish 75 = .ok (.imul, 1) := by decide +kernel
set_option maxRecDepth 20000 in
theorem dX8_wish_76 : decode cX8_wish 76 = .ok (.iload_n 1, 1) := by decide +kernel
set_option maxRecDepth 20000 in
theorem dX8_wish_77 : decode cX8_wish 77 = .ok (.iadd, 1) := by decide +kernel
set_option maxRecDepth 20000 in
theorem dX8_wish_78 : decode cX8_wish 78 = .ok (.aload_n 0, 1) := by decide +kernel
set_option maxRecDepth 20000 in
theorem dX8_wish_79 : decode cX8_wish 79 = .ok (.getfield 16, 3) := by decide +kernel
set_option maxRecDepth 20000 in
theorem dX8_wish_82 : decode cX8_wish 82 = .ok (.bipush 8, 2) := by decide +kernel
set_option maxRecDepth 20000 in
theorem dX8_wish_84 : decode cX8_wish 84 = .ok (.iload 5, 2) := by decide +kernel
set_option maxRecDepth 20000 in
theorem dX8_wish_86 : decode cX8_wish 86 = .ok (.imul, 1) := by decide +kernel
set_option maxRecDepth 20000 in
theorem dX8_wish_87 : decode cX8_wish 87 = .ok (.iload_n 1, 1) := by decide +kernel
set_option maxRecDepth 20000 in
theorem dX8_wish_88 : decode cX8_wish 88 = .ok (.iadd, 1) := by decide +kernel
set_option maxRecDepth 20000 in
theorem dX8_wish_89 : decode cX8_wish 89 = .ok (.iaload, 1) := by decide +kernel
set_option maxRecDepth 20000 in
theorem dX8_wish_90 : decode cX8_wish 90 = .ok (.iload_n 2, 1) := by decide +kernel
set_option maxRecDepth 20000 in
theorem dX8_wish_91 : decode cX8_wish 91 = .ok (.iconst 1, 1) := by decide +kernel
set_option maxRecDepth 20000 in
theorem dX8_wish_92 : decode cX8_wish 92 = .ok (.iadd, 1) := by decide +kernel
set_option maxRecDepth 20000 in
theorem dX8_wish_93 : decode cX8_wish 93 = .ok (.if_icmp .ne 7, 3) := by decide +kernel
set_option maxRecDepth 20000 in
theorem dX8_wish_96 : decode cX8_wish 96 = .ok (.iconst 0, 1) := by decide +kernel
set_option maxRecDepth 20000 in
theorem dX8_wish_97 : decode cX8_wish 97 = .ok (.goto 15, 3) := by decide +kernel
set_option maxRecDepth 20000 in
theorem dX8_wish_100 : decode cX8_wish 100 = .ok (.aload_n 0, 1) := by decide +kernel
set_option maxRecDepth 20000 in
theorem dX8_wish_101 : decode cX8_wish 101 = .ok (.getfield 16, 3) := by decide +kernel
set_option maxRecDepth 20000 in
theorem dX8_wish_104 : decode cX8_wish 104 = .ok (.bipush 8, 2) := by decide +kernel
set_option maxRecDepth 20000 in
theorem dX8_wish_106 : decode cX8_wish 106 = .ok (.iload 5, 2) := by decide +kernel
set_option maxRecDepth 20000 in
theorem dX8_wish_108 : decode cX8_wish 108 = .ok (.imul, 1) := by decide +kernel
set_option maxRecDepth 20000 in
theorem dX8_wish_109 : decode cX8_wish 109 = .ok (.iload_n 1, 1) := by decide +kernel
set_option maxRecDepth 20000 in
theorem dX8_wish_110 : decode cX8_wish 110 = .ok (.iadd, 1) := by decide +kernel
set_option maxRecDepth 20000 in
theorem dX8_wish_111 : decode cX8_wish 111 = .ok (.iaload, 1) := by decide +kernel
set_option maxRecDepth 20000 in
theorem dX8_wish_112 : decode cX8_wish 112 = .ok (.iastore, 1) := by decide +kernel
set_option maxRecDepth 20000 in
theorem dX8_wish_113 : decode cX8_wish 113 = .ok (.iinc 5 1, 3) := by decide +kernel
set_option maxRecDepth 20000 in
theorem dX8_wish_116 : decode cX8_wish 116 = .ok (.goto (-59), 3) := by decide +kernel
set_option maxRecDepth 20000 in
theorem dX8_wish_119 : decode cX8_wish 119 = .ok (.iload 4, 2) := by decide +kernel
set_option maxRecDepth 20000 in
theorem dX8_wish_121 : decode cX8_wish 121 = .ok (.ireturn, 1) := by decide +kernel
def f_X8_wish_112 (N : Nat) (c_askers : Int32) (c_places : Int32) (k57 : (Nat → Int32) → (Nat → Int32) → Int32 → Int32 → Int32 → Int32 → Int32 → Option (Int32 × (Nat → Int32) × (Nat → Int32))) (c_told : Nat → Int32) (c_wish : Nat → Int32) (v1 : Int32) (v2 : Int32) (v3 : Int32) (v4 : Int32) (v5 : Int32) (s1 : Int32) (s2 : Int32) : Option (Int32 × (Nat → Int32) × (Nat → Int32)) :=
    (wrI 32 c_told s1 s2).bind fun t1 =>
    k57 t1 c_wish v1 v2 v3 v4 (v5 + 1)
set_option maxHeartbeats 4000000 in
set_option maxRecDepth 100000 in
theorem g_X8_wish_112 {κ : KC} {ω : KW} {A : Nat → Prop} {ad : Nat → Nat} {u_above : Int64} {u_below : Int64} {u_full : Int32} {u_firsts : Int32} {u_freed : Int32} {u_whole : Int64} {N : Nat} {c_askers : Int32} {c_places : Int32}  {k57 : (Nat → Int32) → (Nat → Int32) → Int32 → Int32 → Int32 → Int32 → Int32 → Option (Int32 × (Nat → Int32) × (Nat → Int32))} {res : Int32 × (Nat → Int32) × (Nat → Int32)} (hk57 : ∀ {c_told : Nat → Int32} {c_wish : Nat → Int32} {v1 : Int32} {v2 : Int32} {v3 : Int32} {v4 : Int32} {v5 : Int32}, k57 c_told c_wish v1 v2 v3 v4 v5 = some res → GG mu_X8_wish κ ω A (QR κ ω A ad (some (.int res.1)) (w_X8_wish c_askers c_places res.2.1 res.2.2 u_above u_below u_full u_firsts u_freed u_whole)) ad 0 0 57 (w_X8_wish c_askers c_places c_told c_wish u_above u_below u_full u_firsts u_freed u_whole) [some (.ref 0), some (.int v1), some (.int v2), some (.int v3), some (.int v4), some (.int v5)] []) {c_told : Nat → Int32} {c_wish : Nat → Int32} {v1 : Int32} {v2 : Int32} {v3 : Int32} {v4 : Int32} {v5 : Int32} {s1 : Int32} {s2 : Int32} (hf : f_X8_wish_112 N c_askers c_places k57 c_told c_wish v1 v2 v3 v4 v5 s1 s2 = some res) : GG mu_X8_wish κ ω A (QR κ ω A ad (some (.int res.1)) (w_X8_wish c_askers c_places res.2.1 res.2.2 u_above u_below u_full u_firsts u_freed u_whole)) ad 0 0 112 (w_X8_wish c_askers c_places c_told c_wish u_above u_below u_full u_firsts u_freed u_whole) [some (.ref 0), some (.int v1), some (.int v2), some (.int v3), some (.int v4), some (.int v5)] [.int s2, .int s1, .ref 1] := by
  obtain ⟨t1, ht1, hf⟩ := ob hf
  refine G_iast (w2 := (w_X8_wish c_askers c_places t1 c_wish u_above u_below u_full u_firsts u_freed u_whole)) dX8_wish_112 rfl ht1 rfl ?_
  refine G_iinc 1 dX8_wish_113 (by decide) rfl (ltb rfl) ?_
  change GG _ _ _ _ _ _ _ _ _ _ [some (.ref 0), some (.int v1), some (.int v2), some (.int v3), some (.int v4), some (.int (v5 + 1))] _
  refine G_goto 57 dX8_wish_116 (by decide) ?_
  exact hk57 hf
def f_X8_wish_57 (N : Nat) (c_askers : Int32) (c_places : Int32) : Nat → (Nat → Int32) → (Nat → Int32) → Int32 → Int32 → Int32 → Int32 → Int32 → Option (Int32 × (Nat → Int32) × (Nat → Int32))
  | 0, _, _, _, _, _, _, _ => none
  | n + 1, c_told, c_wish, v1, v2, v3, v4, v5 =>
    (if 4 ≤ v5 then
      some (v4, c_told, c_wish)
    else
      (if v3 = 0 then
        (rdI 32 c_told ((8 * v5) + v1)).bind fun t3 =>
        (if t3 = (v2 + 1) then
          f_X8_wish_112 N c_askers c_places (f_X8_wish_57 N c_askers c_places n) c_told c_wish v1 v2 v3 v4 v5 ((8 * v5) + v1) 0
        else
          (rdI 32 c_told ((8 * v5) + v1)).bind fun t5 =>
          f_X8_wish_112 N c_askers c_places (f_X8_wish_57 N c_askers c_places n) c_told c_wish v1 v2 v3 v4 v5 ((8 * v5) + v1) t5)
      else
        some (v4, c_told, c_wish)))
set_option maxHeartbeats 4000000 in
set_option maxRecDepth 100000 in
theorem g_X8_wish_57 {κ : KC} {ω : KW} {A : Nat → Prop} {ad : Nat → Nat} {u_above : Int64} {u_below : Int64} {u_full : Int32} {u_firsts : Int32} {u_freed : Int32} {u_whole : Int64} {N : Nat} {c_askers : Int32} {c_places : Int32}  {res : Int32 × (Nat → Int32) × (Nat → Int32)} : ∀ (n : Nat) {c_told : Nat → Int32} {c_wish : Nat → Int32} {v1 : Int32} {v2 : Int32} {v3 : Int32} {v4 : Int32} {v5 : Int32}, f_X8_wish_57 N c_askers c_places n c_told c_wish v1 v2 v3 v4 v5 = some res → GG mu_X8_wish κ ω A (QR κ ω A ad (some (.int res.1)) (w_X8_wish c_askers c_places res.2.1 res.2.2 u_above u_below u_full u_firsts u_freed u_whole)) ad 0 0 57 (w_X8_wish c_askers c_places c_told c_wish u_above u_below u_full u_firsts u_freed u_whole) [some (.ref 0), some (.int v1), some (.int v2), some (.int v3), some (.int v4), some (.int v5)] [] := by
  intro n
  induction n with
  | zero => intro c_told c_wish v1 v2 v3 v4 v5 hf; exact ob_0 hf
  | succ n ih =>
    intro c_told c_wish v1 v2 v3 v4 v5 hf
    refine G_iload dX8_wish_57 rfl ?_
    refine G_iconst 4 dX8_wish_59 (by decide) ?_
    refine G_icmp_ge 119 dX8_wish_60 (by decide) (fun h1 => ?_) (fun h1 => ?_)
    · replace hf := ob_t h1 hf
      refine G_iload dX8_wish_119 rfl ?_
      obtain rfl := os hf
      exact G_ireturn dX8_wish_121 rfl
    · replace hf := ob_f h1 hf
      refine G_iload_n dX8_wish_63 rfl rfl ?_
      refine G_if_ne 119 dX8_wish_64 (by decide) (fun h2 => ?_) (fun h2 => ?_)
      · replace hf := ob_f h2 hf
        refine G_iload dX8_wish_119 rfl ?_
        obtain rfl := os hf
        exact G_ireturn dX8_wish_121 rfl
      · replace hf := ob_t h2 hf
        refine G_aload_n dX8_wish_67 rfl rfl ?_
        refine G_get (v := .ref 1) F_X8_16 dX8_wish_68 rfl rfl ?_
        refine G_bipush 8 dX8_wish_71 (by decide) ?_
        refine G_iload dX8_wish_73 rfl ?_
        refine G_imul dX8_wish_75 ?_
        refine G_iload_n dX8_wish_76 rfl rfl ?_
        refine G_iadd dX8_wish_77 ?_
        refine G_aload_n dX8_wish_78 rfl rfl ?_
        refine G_get (v := .ref 1) F_X8_16 dX8_wish_79 rfl rfl ?_
        refine G_bipush 8 dX8_wish_82 (by decide) ?_
        refine G_iload dX8_wish_84 rfl ?_
        refine G_imul dX8_wish_86 ?_
        refine G_iload_n dX8_wish_87 rfl rfl ?_
        refine G_iadd dX8_wish_88 ?_
        obtain ⟨t3, ht3, hf⟩ := ob hf
        refine G_iald dX8_wish_89 rfl ht3 ?_
        refine G_iload_n dX8_wish_90 rfl rfl ?_
        refine G_iconst 1 dX8_wish_91 (by decide) ?_
        refine G_iadd dX8_wish_92 ?_
        refine G_icmp_ne 100 dX8_wish_93 (by decide) (fun h4 => ?_) (fun h4 => ?_)
        · replace hf := ob_f h4 hf
          refine G_aload_n dX8_wish_100 rfl rfl ?_
          refine G_get (v := .ref 1) F_X8_16 dX8_wish_101 rfl rfl ?_
          refine G_bipush 8 dX8_wish_104 (by decide) ?_
          refine G_iload dX8_wish_106 rfl ?_
          refine G_imul dX8_wish_108 ?_
          refine G_iload_n dX8_wish_109 rfl rfl ?_
          refine G_iadd dX8_wish_110 ?_
          obtain ⟨t5, ht5, hf⟩ := ob hf
          refine G_iald dX8_wish_111 rfl ht5 ?_
          exact g_X8_wish_112 ih hf
        · replace hf := ob_t h4 hf
          refine G_iconst 0 dX8_wish_96 (by decide) ?_
          refine G_goto 112 dX8_wish_97 (by decide) ?_
          exact g_X8_wish_112 ih hf
def f_X8_wish (N : Nat) (c_askers : Int32) (c_places : Int32) (c_told : Nat → Int32) (c_wish : Nat → Int32) (a1 : Int32) (a2 : Int32) (a3 : Int32) : Option (Int32 × (Nat → Int32) × (Nat → Int32)) :=
  (f_X8_isAsker N c_askers a1).bind fun r1 =>
  (if r1 = 0 then
    some ((-2 : Int32), c_told, c_wish)
  else
    (f_X8_isPlace N c_places a2).bind fun r4 =>
    (if r4 = 0 then
      some ((-2 : Int32), c_told, c_wish)
    else
      (f_X8_in N a3 0 6).bind fun r7 =>
      (if r7 = 0 then
        some ((-2 : Int32), c_told, c_wish)
      else
        (rdI 48 c_wish ((6 * a1) + a2)).bind fun t10 =>
        (wrI 48 c_wish ((6 * a1) + a2) a3).bind fun t11 =>
        f_X8_wish_57 N c_askers c_places N c_told t11 a1 a2 a3 t10 0)))
set_option maxHeartbeats 4000000 in
set_option maxRecDepth 100000 in
theorem c_X8_wish {N : Nat} {c_askers : Int32} {c_places : Int32} {c_told : Nat → Int32} {c_wish : Nat → Int32} {u_above : Int64} {u_below : Int64} {u_full : Int32} {u_firsts : Int32} {u_freed : Int32} {u_whole : Int64} {a1 : Int32} {a2 : Int32} {a3 : Int32} {res : Int32 × (Nat → Int32) × (Nat → Int32)} (hf : f_X8_wish N c_askers c_places c_told c_wish a1 a2 a3 = some res) : Con mu_X8_wish [.ref 0, .int a1, .int a2, .int a3] (w_X8_wish c_askers c_places c_told c_wish u_above u_below u_full u_firsts u_freed u_whole) (some (.int res.1)) (w_X8_wish c_askers c_places res.2.1 res.2.2 u_above u_below u_full u_firsts u_freed u_whole) := by
  refine Con.mk (show plainName RX8 = true by decide +kernel) (leb rfl) (fun κ ω A ad => ?_)
  change GG mu_X8_wish κ ω A (QR κ ω A ad (some (.int res.1)) (w_X8_wish c_askers c_places res.2.1 res.2.2 u_above u_below u_full u_firsts u_freed u_whole)) ad 0 0 0 (w_X8_wish c_askers c_places c_told c_wish u_above u_below u_full u_firsts u_freed u_whole) [some (.ref 0), some (.int a1), some (.int a2), some (.int a3), none, none] []
  refine G_aload_n dX8_wish_0 rfl rfl ?_
  refine G_iload_n dX8_wish_1 rfl rfl ?_
  obtain ⟨r1, hc2, hf⟩ := ob hf
  refine G_callV (μ2 := mu_X8_isAsker) (As := [.int a1]) (w2 := (w_X8_wish c_askers c_places c_told c_wish u_above u_below u_full u_firsts u_freed u_whole)) (wc := (w_X8_isAsker c_askers c_places u_above u_below u_full u_firsts u_freed u_whole)) (wc2 := (w_X8_isAsker c_askers c_places u_above u_below u_full u_firsts u_freed u_whole)) (rest := []) (rv := [.int r1]) [0] [1000, 2, 1, 1001, 1002, 1003, 1004, 1005, 1006, 1007, 1008, 1009, 1010, 1011, 1012, 1013, 1014, 1015, 1016, 1017, 1018] [1, 2] [2, 0, 1] (c_X8_isAsker hc2) cw_X8_isAsker m_X8_108 dX8_wish_2 rfl ⟨leb rfl, leb rfl⟩ ⟨rfl, rfl⟩ rfl ⟨_, rfl, rfl⟩ (Fit.mk rfl rfl rfl) rfl (leb rfl) (ROsub.nil rfl rfl) rfl ?_
  change GG _ _ _ _ _ _ _ _ _ (w_X8_wish c_askers c_places c_told c_wish u_above u_below u_full u_firsts u_freed u_whole) [some (.ref 0), some (.int a1), some (.int a2), some (.int a3), none, none] [.int r1]
  refine G_if_eq 26 dX8_wish_5 (by decide) (fun h3 => ?_) (fun h3 => ?_)
  · replace hf := ob_t h3 hf
    refine G_bipush (-2 : Int32) dX8_wish_26 (by decide) ?_
    obtain rfl := os hf
    exact G_ireturn dX8_wish_28 rfl
  · replace hf := ob_f h3 hf
    refine G_aload_n dX8_wish_8 rfl rfl ?_
    refine G_iload_n dX8_wish_9 rfl rfl ?_
    obtain ⟨r4, hc5, hf⟩ := ob hf
    refine G_callV (μ2 := mu_X8_isPlace) (As := [.int a2]) (w2 := (w_X8_wish c_askers c_places c_told c_wish u_above u_below u_full u_firsts u_freed u_whole)) (wc := (w_X8_isPlace c_places c_askers u_above u_below u_full u_firsts u_freed u_whole)) (wc2 := (w_X8_isPlace c_places c_askers u_above u_below u_full u_firsts u_freed u_whole)) (rest := []) (rv := [.int r4]) [0] [1000, 2, 1, 1001, 1002, 1003, 1004, 1005, 1006, 1007, 1008, 1009, 1010, 1011, 1012, 1013, 1014, 1015, 1016, 1017, 1018] [1, 2] [2, 0, 1] (c_X8_isPlace hc5) cw_X8_isPlace m_X8_100 dX8_wish_10 rfl ⟨leb rfl, leb rfl⟩ ⟨rfl, rfl⟩ rfl ⟨_, rfl, rfl⟩ (Fit.mk rfl rfl rfl) rfl (leb rfl) (ROsub.nil rfl rfl) rfl ?_
    change GG _ _ _ _ _ _ _ _ _ (w_X8_wish c_askers c_places c_told c_wish u_above u_below u_full u_firsts u_freed u_whole) [some (.ref 0), some (.int a1), some (.int a2), some (.int a3), none, none] [.int r4]
    refine G_if_eq 26 dX8_wish_13 (by decide) (fun h6 => ?_) (fun h6 => ?_)
    · replace hf := ob_t h6 hf
      refine G_bipush (-2 : Int32) dX8_wish_26 (by decide) ?_
      obtain rfl := os hf
      exact G_ireturn dX8_wish_28 rfl
    · replace hf := ob_f h6 hf
      refine G_iload_n dX8_wish_16 rfl rfl ?_
      refine G_iconst 0 dX8_wish_17 (by decide) ?_
      refine G_bipush 6 dX8_wish_18 (by decide) ?_
      obtain ⟨r7, hc8, hf⟩ := ob hf
      refine G_callS (μ2 := mu_X8_in) (As := [.int a3, .int 0, .int 6]) (w2 := (w_X8_wish c_askers c_places c_told c_wish u_above u_below u_full u_firsts u_freed u_whole)) (wc := []) (wc2 := []) (rest := []) (rv := [.int r7]) [] [] [0, 1, 2] [0, 1, 2] (c_X8_in hc8) cw_X8_in m_X8_93 rfl dX8_wish_20 rfl ⟨leb rfl, leb rfl⟩ ⟨rfl, rfl⟩ (Fit.mk rfl rfl rfl) rfl (leb rfl) (ROsub.nil rfl rfl) rfl ?_
      change GG _ _ _ _ _ _ _ _ _ (w_X8_wish c_askers c_places c_told c_wish u_above u_below u_full u_firsts u_freed u_whole) [some (.ref 0), some (.int a1), some (.int a2), some (.int a3), none, none] [.int r7]
      refine G_if_ne 29 dX8_wish_23 (by decide) (fun h9 => ?_) (fun h9 => ?_)
      · replace hf := ob_f h9 hf
        refine G_aload_n dX8_wish_29 rfl rfl ?_
        refine G_get (v := .ref 2) F_X8_13 dX8_wish_30 rfl rfl ?_
        refine G_bipush 6 dX8_wish_33 (by decide) ?_
        refine G_iload_n dX8_wish_35 rfl rfl ?_
        refine G_imul dX8_wish_36 ?_
        refine G_iload_n dX8_wish_37 rfl rfl ?_
        refine G_iadd dX8_wish_38 ?_
        obtain ⟨t10, ht10, hf⟩ := ob hf
        refine G_iald dX8_wish_39 rfl ht10 ?_
        refine G_istore dX8_wish_40 (ltb rfl) ?_
        change GG _ _ _ _ _ _ _ _ _ _ [some (.ref 0), some (.int a1), some (.int a2), some (.int a3), some (.int t10), none] _
        refine G_aload_n dX8_wish_42 rfl rfl ?_
        refine G_get (v := .ref 2) F_X8_13 dX8_wish_43 rfl rfl ?_
        refine G_bipush 6 dX8_wish_46 (by decide) ?_
        refine G_iload_n dX8_wish_48 rfl rfl ?_
        refine G_imul dX8_wish_49 ?_
        refine G_iload_n dX8_wish_50 rfl rfl ?_
        refine G_iadd dX8_wish_51 ?_
        refine G_iload_n dX8_wish_52 rfl rfl ?_
        obtain ⟨t11, ht11, hf⟩ := ob hf
        refine G_iast (w2 := (w_X8_wish c_askers c_places c_told t11 u_above u_below u_full u_firsts u_freed u_whole)) dX8_wish_53 rfl ht11 rfl ?_
        refine G_iconst 0 dX8_wish_54 (by decide) ?_
        refine G_istore dX8_wish_55 (ltb rfl) ?_
        change GG _ _ _ _ _ _ _ _ _ _ [some (.ref 0), some (.int a1), some (.int a2), some (.int a3), some (.int t10), some (.int 0)] _
        exact g_X8_wish_57 N hf
      · replace hf := ob_t h9 hf
        refine G_bipush (-2 : Int32) dX8_wish_26 (by decide) ?_
        obtain rfl := os hf
        exact G_ireturn dX8_wish_28 rfl
set_option maxRecDepth 20000 in
theorem dX8_worthOf_0 : decode cX8_worthOf 0 = .ok (.iload_n 2, 1) := by decide +kernel
set_option maxRecDepth 20000 in
theorem dX8_worthOf_1 : decode cX8_worthOf 1 = .ok (.ifCond .ne 8, 3) := by decide +kernel
set_option maxRecDepth 20000 in
theorem dX8_worthOf_4 : decode cX8_worthOf 4 = .ok (.bipush 7, 2) := by decide +kernel
set_option maxRecDepth 20000 in
theorem dX8_worthOf_6 : decode cX8_worthOf 6 = .ok (.goto 16, 3) := by decide +kernel
set_option maxRecDepth 20000 in
theorem dX8_worthOf_9 : decode cX8_worthOf 9 = .ok (.aload_n 0, 1) := by decide +kernel
set_option maxRecDepth 20000 in
theorem dX8_worthOf_10 : decode cX8_worthOf 10 = .ok (.getfield 13, 3) := by decide +kernel
set_option maxRecDepth 20000 in
theorem dX8_worthOf_13 : decode cX8_worthOf 13 = .ok (.bipush 6, 2) := by decide +kernel
set_option maxRecDepth 20000 in
theorem dX8_worthOf_15 : decode cX8_worthOf 15 = .ok (.iload_n 1, 1) := by decide +kernel
set_option maxRecDepth 20000 in
theorem dX8_worthOf_16 : decode cX8_worthOf 16 = .ok (.imul, 1) := by decide +kernel
set_option maxRecDepth 20000 in
theorem dX8_worthOf_17 : decode cX8_worthOf 17 = .ok (.iload_n 2, 1) := by decide +kernel
set_option maxRecDepth 20000 in
theorem dX8_worthOf_18 : decode cX8_worthOf 18 = .ok (.iadd, 1) := by decide +kernel
set_option maxRecDepth 20000 in
theorem dX8_worthOf_19 : decode cX8_worthOf 19 = .ok (.iconst 1, 1) := by decide +kernel
set_option maxRecDepth 20000 in
theorem dX8_worthOf_20 : decode cX8_worthOf 20 = .ok (.isub, 1) := by decide +kernel
set_option maxRecDepth 20000 in
theorem dX8_worthOf_21 : decode cX8_worthOf 21 = .ok (.iaload, 1) := by decide +kernel
set_option maxRecDepth 20000 in
theorem dX8_worthOf_22 : decode cX8_worthOf 22 = .ok (.istore_n 3, 1) := by decide +kernel
set_option maxRecDepth 20000 in
theorem dX8_worthOf_23 : decode cX8_worthOf 23 = .ok (.iload_n 3, 1) := by decide +kernel
set_option maxRecDepth 20000 in
theorem dX8_worthOf_24 : decode cX8_worthOf 24 = .ok (.ifCond .ne 8, 3) := by decide +kernel
set_option maxRecDepth 20000 in
theorem dX8_worthOf_27 : decode cX8_worthOf 27 = .ok (.bipush 8, 2) := by decide +kernel
set_option maxRecDepth 20000 in
theorem dX8_worthOf_29 : decode cX8_worthOf 29 = .ok (.goto 4, 3) := by decide +kernel
set_option maxRecDepth 20000 in
theorem dX8_worthOf_32 : decode cX8_worthOf 32 = .ok (.iload_n 3, 1) := by decide +kernel
set_option maxRecDepth 20000 in
theorem dX8_worthOf_33 : decode cX8_worthOf 33 = .ok (.ireturn, 1) := by decide +kernel
def f_X8_worthOf_22 (N : Nat) (c_wish : Nat → Int32) (s0 : Int32) : Option (Int32) :=
    (if s0 = 0 then
      some 8
    else
      some s0)
set_option maxHeartbeats 4000000 in
set_option maxRecDepth 100000 in
theorem g_X8_worthOf_22 {κ : KC} {ω : KW} {A : Nat → Prop} {ad : Nat → Nat} {u_askers : Int32} {u_places : Int32} {u_above : Int64} {u_below : Int64} {u_full : Int32} {u_firsts : Int32} {u_freed : Int32} {u_whole : Int64} {N : Nat} {c_wish : Nat → Int32}  {res : Int32} {s0 : Int32} (hf : f_X8_worthOf_22 N c_wish s0 = some res) : GG mu_X8_worthOf κ ω A (QR κ ω A ad (some (.int res)) (w_X8_worthOf c_wish u_askers u_places u_above u_below u_full u_firsts u_freed u_whole)) ad 0 0 22 (w_X8_worthOf c_wish u_askers u_places u_above u_below u_full u_firsts u_freed u_whole) [none, none, none, none] [.int s0] := by
  refine G_istore_n dX8_worthOf_22 rfl (ltb rfl) ?_
  change GG _ _ _ _ _ _ _ _ _ _ [none, none, none, some (.int s0)] _
  refine G_iload_n dX8_worthOf_23 rfl rfl ?_
  refine G_if_ne 32 dX8_worthOf_24 (by decide) (fun h1 => ?_) (fun h1 => ?_)
  · replace hf := ob_f h1 hf
    refine G_iload_n dX8_worthOf_32 rfl rfl ?_
    obtain rfl := os hf
    exact G_ireturn dX8_worthOf_33 rfl
  · replace hf := ob_t h1 hf
    refine G_bipush 8 dX8_worthOf_27 (by decide) ?_
    refine G_goto 33 dX8_worthOf_29 (by decide) ?_
    obtain rfl := os hf
    exact G_ireturn dX8_worthOf_33 rfl
def f_X8_worthOf (N : Nat) (c_wish : Nat → Int32) (a1 : Int32) (a2 : Int32) : Option (Int32) :=
  (if a2 = 0 then
    f_X8_worthOf_22 N c_wish 7
  else
    (rdI 48 c_wish (((6 * a1) + a2) - 1)).bind fun t2 =>
    f_X8_worthOf_22 N c_wish t2)
set_option maxHeartbeats 4000000 in
set_option maxRecDepth 100000 in
theorem c_X8_worthOf {N : Nat} {c_wish : Nat → Int32}  {u_askers : Int32} {u_places : Int32} {u_above : Int64} {u_below : Int64} {u_full : Int32} {u_firsts : Int32} {u_freed : Int32} {u_whole : Int64} {a1 : Int32} {a2 : Int32} {res : Int32} (hf : f_X8_worthOf N c_wish a1 a2 = some res) : Con mu_X8_worthOf [.ref 0, .int a1, .int a2] (w_X8_worthOf c_wish u_askers u_places u_above u_below u_full u_firsts u_freed u_whole) (some (.int res)) (w_X8_worthOf c_wish u_askers u_places u_above u_below u_full u_firsts u_freed u_whole) := by
  refine Con.mk (show plainName RX8 = true by decide +kernel) (leb rfl) (fun κ ω A ad => ?_)
  change GG mu_X8_worthOf κ ω A (QR κ ω A ad (some (.int res)) (w_X8_worthOf c_wish u_askers u_places u_above u_below u_full u_firsts u_freed u_whole)) ad 0 0 0 (w_X8_worthOf c_wish u_askers u_places u_above u_below u_full u_firsts u_freed u_whole) [some (.ref 0), some (.int a1), some (.int a2), none] []
  refine G_iload_n dX8_worthOf_0 rfl rfl ?_
  refine G_if_ne 9 dX8_worthOf_1 (by decide) (fun h1 => ?_) (fun h1 => ?_)
  · replace hf := ob_f h1 hf
    refine G_aload_n dX8_worthOf_9 rfl rfl ?_
    refine G_get (v := .ref 1) F_X8_13 dX8_worthOf_10 rfl rfl ?_
    refine G_bipush 6 dX8_worthOf_13 (by decide) ?_
    refine G_iload_n dX8_worthOf_15 rfl rfl ?_
    refine G_imul dX8_worthOf_16 ?_
    refine G_iload_n dX8_worthOf_17 rfl rfl ?_
    refine G_iadd dX8_worthOf_18 ?_
    refine G_iconst 1 dX8_worthOf_19 (by decide) ?_
    refine G_isub dX8_worthOf_20 ?_
    obtain ⟨t2, ht2, hf⟩ := ob hf
    refine G_iald dX8_worthOf_21 rfl ht2 ?_
    refine GG.sb (lv2 := [none, none, none, none]) ?_ (lvS_n (lvS_n (lvS_n (lvS_n (lvS_e)))))
    exact g_X8_worthOf_22 hf
  · replace hf := ob_t h1 hf
    refine G_bipush 7 dX8_worthOf_4 (by decide) ?_
    refine G_goto 22 dX8_worthOf_6 (by decide) ?_
    refine GG.sb (lv2 := [none, none, none, none]) ?_ (lvS_n (lvS_n (lvS_n (lvS_n (lvS_e)))))
    exact g_X8_worthOf_22 hf
set_option maxRecDepth 20000 in
theorem dX8_worth_0 : decode cX8_worth 0 = .ok (.aload_n 0, 1) := by decide +kernel
set_option maxRecDepth 20000 in
theorem dX8_worth_1 : decode cX8_worth 1 = .ok (.iload_n 1, 1) := by decide +kernel
set_option maxRecDepth 20000 in
theorem dX8_worth_2 : decode cX8_worth 2 = .ok (.invokevirtual 108, 3) := by decide +kernel
set_option maxRecDepth 20000 in
theorem dX8_worth_5 : decode cX8_worth 5 = .ok (.ifCond .eq 27, 3) := by decide +kernel
set_option maxRecDepth 20000 in
theorem dX8_worth_8 : decode cX8_worth 8 = .ok (.iload_n 2, 1) := by decide +kernel
set_option maxRecDepth 20000 in
theorem dX8_worth_9 : decode cX8_worth 9 = .ok (.iconst (-1), 1) := by decide +kernel
set_option maxRecDepth 20000 in
theorem dX8_worth_10 : decode cX8_worth 10 = .ok (.if_icmp .eq 11, 3) := by decide +kernel
set_option maxRecDepth 20000 in
theorem dX8_worth_13 : decode cX8_worth 13 = .ok (.aload_n 0, 1) := by decide +kernel
set_option maxRecDepth 20000 in
theorem dX8_worth_14 : decode cX8_worth 14 = .ok (.iload_n 2, 1) := by decide +kernel
set_option maxRecDepth 20000 in
theorem dX8_worth_15 : decode cX8_worth 15 = .ok (.invokevirtual 100, 3) := by decide +kernel
set_option maxRecDepth 20000 in
theorem dX8_worth_18 : decode cX8_worth 18 = .ok (.ifCond .eq 14, 3) := by decide +kernel
set_option maxRecDepth 20000 in
theorem dX8_worth_21 : decode cX8_worth 21 = .ok (.aload_n 0, 1) := by decide +kernel
set_option maxRecDepth 20000 in
theorem dX8_worth_22 : decode cX8_worth 22 = .ok (.iload_n 1, 1) := by decide +kernel
set_option maxRecDepth 20000 in
theorem dX8_worth_23 : decode cX8_worth 23 = .ok (.iload_n 2, 1) := by decide +kernel
set_option maxRecDepth 20000 in
theorem dX8_worth_24 : decode cX8_worth 24 = .ok (.iconst 1, 1) := by decide +kernel
set_option maxRecDepth 20000 in
theorem dX8_worth_25 : decode cX8_worth 25 = .ok (.iadd, 1) := by decide +kernel
set_option maxRecDepth 20000 in
theorem dX8_worth_26 : decode cX8_worth 26 = .ok (.invokevirtual 111, 3) := by decide +kernel
set_option maxRecDepth 20000 in
theorem dX8_worth_29 : decode cX8_worth 29 = .ok (.goto 5, 3) := by decide +kernel
set_option maxRecDepth 20000 in
theorem dX8_worth_32 : decode cX8_worth 32 = .ok (.bipush (-2), 2) := by decide +kernel
set_option maxRecDepth 20000 in
theorem dX8_worth_34 : decode cX8_worth 34 = .ok (.ireturn, 1) := by decide +kernel
def f_X8_worth_21 (N : Nat) (c_askers : Int32) (c_places : Int32) (c_wish : Nat → Int32) (v1 : Int32) (v2 : Int32) : Option (Int32) :=
    (f_X8_worthOf N c_wish v1 (v2 + 1)).bind fun r1 =>
    some r1
set_option maxHeartbeats 4000000 in
set_option maxRecDepth 100000 in
theorem g_X8_worth_21 {κ : KC} {ω : KW} {A : Nat → Prop} {ad : Nat → Nat} {u_above : Int64} {u_below : Int64} {u_full : Int32} {u_firsts : Int32} {u_freed : Int32} {u_whole : Int64} {N : Nat} {c_askers : Int32} {c_places : Int32} {c_wish : Nat → Int32}  {res : Int32} {v1 : Int32} {v2 : Int32} (hf : f_X8_worth_21 N c_askers c_places c_wish v1 v2 = some res) : GG mu_X8_worth κ ω A (QR κ ω A ad (some (.int res)) (w_X8_worth c_askers c_places c_wish u_above u_below u_full u_firsts u_freed u_whole)) ad 0 0 21 (w_X8_worth c_askers c_places c_wish u_above u_below u_full u_firsts u_freed u_whole) [some (.ref 0), some (.int v1), some (.int v2)] [] := by
  refine G_aload_n dX8_worth_21 rfl rfl ?_
  refine G_iload_n dX8_worth_22 rfl rfl ?_
  refine G_iload_n dX8_worth_23 rfl rfl ?_
  refine G_iconst 1 dX8_worth_24 (by decide) ?_
  refine G_iadd dX8_worth_25 ?_
  obtain ⟨r1, hc2, hf⟩ := ob hf
  refine G_callV (μ2 := mu_X8_worthOf) (As := [.int v1, .int (v2 + 1)]) (w2 := (w_X8_worth c_askers c_places c_wish u_above u_below u_full u_firsts u_freed u_whole)) (wc := (w_X8_worthOf c_wish c_askers c_places u_above u_below u_full u_firsts u_freed u_whole)) (wc2 := (w_X8_worthOf c_wish c_askers c_places u_above u_below u_full u_firsts u_freed u_whole)) (rest := []) (rv := [.int r1]) [0, 1] [1000, 1001, 1002, 1003, 1004, 1005, 1006, 1007, 1008, 1009, 1010, 1011, 1012, 1013, 1014, 1015, 1016, 1017, 1018, 1019] [] [0, 1] (c_X8_worthOf hc2) cw_X8_worthOf m_X8_111 dX8_worth_26 rfl ⟨leb rfl, leb rfl⟩ ⟨rfl, rfl⟩ rfl ⟨_, rfl, rfl⟩ (Fit.mk rfl rfl rfl) rfl (leb rfl) (ROsub.nil rfl rfl) rfl ?_
  change GG _ _ _ _ _ _ _ _ _ (w_X8_worth c_askers c_places c_wish u_above u_below u_full u_firsts u_freed u_whole) [some (.ref 0), some (.int v1), some (.int v2)] [.int r1]
  refine G_goto 34 dX8_worth_29 (by decide) ?_
  obtain rfl := os hf
  exact G_ireturn dX8_worth_34 rfl
def f_X8_worth (N : Nat) (c_askers : Int32) (c_places : Int32) (c_wish : Nat → Int32) (a1 : Int32) (a2 : Int32) : Option (Int32) :=
  (f_X8_isAsker N c_askers a1).bind fun r1 =>
  (if r1 = 0 then
    some (-2 : Int32)
  else
    (if a2 = (-1 : Int32) then
      f_X8_worth_21 N c_askers c_places c_wish a1 a2
    else
      (f_X8_isPlace N c_places a2).bind fun r5 =>
      (if r5 = 0 then
        some (-2 : Int32)
      else
        f_X8_worth_21 N c_askers c_places c_wish a1 a2)))
set_option maxHeartbeats 4000000 in
set_option maxRecDepth 100000 in
theorem c_X8_worth {N : Nat} {c_askers : Int32} {c_places : Int32} {c_wish : Nat → Int32}  {u_above : Int64} {u_below : Int64} {u_full : Int32} {u_firsts : Int32} {u_freed : Int32} {u_whole : Int64} {a1 : Int32} {a2 : Int32} {res : Int32} (hf : f_X8_worth N c_askers c_places c_wish a1 a2 = some res) : Con mu_X8_worth [.ref 0, .int a1, .int a2] (w_X8_worth c_askers c_places c_wish u_above u_below u_full u_firsts u_freed u_whole) (some (.int res)) (w_X8_worth c_askers c_places c_wish u_above u_below u_full u_firsts u_freed u_whole) := by
  refine Con.mk (show plainName RX8 = true by decide +kernel) (leb rfl) (fun κ ω A ad => ?_)
  change GG mu_X8_worth κ ω A (QR κ ω A ad (some (.int res)) (w_X8_worth c_askers c_places c_wish u_above u_below u_full u_firsts u_freed u_whole)) ad 0 0 0 (w_X8_worth c_askers c_places c_wish u_above u_below u_full u_firsts u_freed u_whole) [some (.ref 0), some (.int a1), some (.int a2)] []
  refine G_aload_n dX8_worth_0 rfl rfl ?_
  refine G_iload_n dX8_worth_1 rfl rfl ?_
  obtain ⟨r1, hc2, hf⟩ := ob hf
  refine G_callV (μ2 := mu_X8_isAsker) (As := [.int a1]) (w2 := (w_X8_worth c_askers c_places c_wish u_above u_below u_full u_firsts u_freed u_whole)) (wc := (w_X8_isAsker c_askers c_places u_above u_below u_full u_firsts u_freed u_whole)) (wc2 := (w_X8_isAsker c_askers c_places u_above u_below u_full u_firsts u_freed u_whole)) (rest := []) (rv := [.int r1]) [0] [1000, 1, 1001, 1002, 1003, 1004, 1005, 1006, 1007, 1008, 1009, 1010, 1011, 1012, 1013, 1014, 1015, 1016, 1017, 1018, 1019] [1] [1, 0] (c_X8_isAsker hc2) cw_X8_isAsker m_X8_108 dX8_worth_2 rfl ⟨leb rfl, leb rfl⟩ ⟨rfl, rfl⟩ rfl ⟨_, rfl, rfl⟩ (Fit.mk rfl rfl rfl) rfl (leb rfl) (ROsub.nil rfl rfl) rfl ?_
  change GG _ _ _ _ _ _ _ _ _ (w_X8_worth c_askers c_places c_wish u_above u_below u_full u_firsts u_freed u_whole) [some (.ref 0), some (.int a1), some (.int a2)] [.int r1]
  refine G_if_eq 32 dX8_worth_5 (by decide) (fun h3 => ?_) (fun h3 => ?_)
  · replace hf := ob_t h3 hf
    refine G_bipush (-2 : Int32) dX8_worth_32 (by decide) ?_
    obtain rfl := os hf
    exact G_ireturn dX8_worth_34 rfl
  · replace hf := ob_f h3 hf
    refine G_iload_n dX8_worth_8 rfl rfl ?_
    refine G_iconst (-1 : Int32) dX8_worth_9 (by decide) ?_
    refine G_icmp_eq 21 dX8_worth_10 (by decide) (fun h4 => ?_) (fun h4 => ?_)
    · replace hf := ob_t h4 hf
      exact g_X8_worth_21 hf
    · replace hf := ob_f h4 hf
      refine G_aload_n dX8_worth_13 rfl rfl ?_
      refine G_iload_n dX8_worth_14 rfl rfl ?_
      obtain ⟨r5, hc6, hf⟩ := ob hf
      refine G_callV (μ2 := mu_X8_isPlace) (As := [.int a2]) (w2 := (w_X8_worth c_askers c_places c_wish u_above u_below u_full u_firsts u_freed u_whole)) (wc := (w_X8_isPlace c_places c_askers u_above u_below u_full u_firsts u_freed u_whole)) (wc2 := (w_X8_isPlace c_places c_askers u_above u_below u_full u_firsts u_freed u_whole)) (rest := []) (rv := [.int r5]) [0] [1000, 1, 1001, 1002, 1003, 1004, 1005, 1006, 1007, 1008, 1009, 1010, 1011, 1012, 1013, 1014, 1015, 1016, 1017, 1018, 1019] [1] [1, 0] (c_X8_isPlace hc6) cw_X8_isPlace m_X8_100 dX8_worth_15 rfl ⟨leb rfl, leb rfl⟩ ⟨rfl, rfl⟩ rfl ⟨_, rfl, rfl⟩ (Fit.mk rfl rfl rfl) rfl (leb rfl) (ROsub.nil rfl rfl) rfl ?_
      change GG _ _ _ _ _ _ _ _ _ (w_X8_worth c_askers c_places c_wish u_above u_below u_full u_firsts u_freed u_whole) [some (.ref 0), some (.int a1), some (.int a2)] [.int r5]
      refine G_if_eq 32 dX8_worth_18 (by decide) (fun h7 => ?_) (fun h7 => ?_)
      · replace hf := ob_t h7 hf
        refine G_bipush (-2 : Int32) dX8_worth_32 (by decide) ?_
        obtain rfl := os hf
        exact G_ireturn dX8_worth_34 rfl
      · replace hf := ob_f h7 hf
        exact g_X8_worth_21 hf
set_option maxRecDepth 20000 in
theorem dX8_findWeights_0 : decode cX8_findWeights 0 = .ok (.iconst 1, 1) := by decide +kernel
set_option maxRecDepth 20000 in
theorem dX8_findWeights_1 : decode cX8_findWeights 1 = .ok (.istore_n 1, 1) := by decide +kernel
set_option maxRecDepth 20000 in
theorem dX8_findWeights_2 : decode cX8_findWeights 2 = .ok (.aload_n 0, 1) := by decide +kernel
set_option maxRecDepth 20000 in
theorem dX8_findWeights_3 : decode cX8_findWeights 3 = .ok (.iconst 0, 1) := by decide +kernel
set_option maxRecDepth 20000 in
theorem dX8_findWeights_4 : decode cX8_findWeights 4 = .ok (.putfield 114, 3) := by decide +kernel
set_option maxRecDepth 20000 in
theorem dX8_findWeights_7 : decode cX8_findWeights 7 = .ok (.iconst 0, 1) := by decide +kernel
set_option maxRecDepth 20000 in
theorem dX8_findWeights_8 : decode cX8_findWeights 8 = .ok (.istore_n 2, 1) := by decide +kernel
set_option maxRecDepth 20000 in
theorem dX8_findWeights_9 : decode cX8_findWeights 9 = .ok (.iload_n 2, 1) := by decide +kernel
set_option maxRecDepth 20000 in
theorem dX8_findWeights_10 : decode cX8_findWeights 10 = .ok (.aload_n 0, 1) := by decide +kernel
set_option maxRecDepth 20000 in
theorem dX8_findWeights_11 : decode cX8_findWeights 11 = .ok (.getfield 97, 3) := by decide +kernel
set_option maxRecDepth 20000 in
theorem dX8_findWeights_14 : decode cX8_findWeights 14 = .ok (.if_icmp .ge 44, 3) := by decide +kernel
set_option maxRecDepth 20000 in
theorem dX8_findWeights_17 : decode cX8_findWeights 17 = .ok (.aload_n 0, 1) := by decide +kernel
set_option maxRecDepth 20000 in
theorem dX8_findWeights_18 : decode cX8_findWeights 18 = .ok (.getfield 19, 3) := by decide +kernel
set_option maxRecDepth 20000 in
theorem dX8_findWeights_21 : decode cX8_findWeights 21 = .ok (.iload_n 2, 1) := by decide +kernel
set_option maxRecDepth 20000 in
theorem dX8_findWeights_22 : decode cX8_findWeights 22 = .ok (.iload_n 1, 1) := by decide +kernel
set_option maxRecDepth 20000 in
theorem dX8_findWeights_23 : decode cX8_findWeights 23 = .ok (.iastore, 1) := by decide +kernel
set_option maxRecDepth 20000 in
theorem dX8_findWeights_24 : decode cX8_findWeights 24 = .ok (.aload_n 0, 1) := by decide +kernel
set_option maxRecDepth 20000 in
theorem dX8_findWeights_25 : decode cX8_findWeights 25 = .ok (.dup, 1) := by decide +kernel
set_option maxRecDepth 20000 in
theorem dX8_findWeights_26 : decode cX8_findWeights 26 = .ok (.getfield 114, 3) := by decide +kernel
set_option maxRecDepth 20000 in
theorem dX8_findWeights_29 : decode cX8_findWeights 29 = .ok (.iload_n 1, 1) := by decide +kernel
set_option maxRecDepth 20000 in
theorem dX8_findWeights_30 : decode cX8_findWeights 30 = .ok (.aload_n 0, 1) := by decide +kernel
set_option maxRecDepth 20000 in
theorem dX8_findWeights_31 : decode cX8_findWeights 31 = .ok (.getfield 7, 3) := by decide +kernel
set_option maxRecDepth 20000 in
theorem dX8_findWeights_34 : decode cX8_findWeights 34 = .ok (.iload_n 2, 1) := by decide +kernel
set_option maxRecDepth 20000 in
theorem dX8_findWeights_35 : decode cX8_findWeights 35 = .ok (.iaload, 1) := by decide +kernel
set_option maxRecDepth 20000 in
theorem dX8_findWeights_36 : decode cX8_findWeights 36 = .ok (.imul, 1) := by decide +kernel
set_option maxRecDepth 20000 in
theorem dX8_findWeights_37 : decode cX8_findWeights 37 = .ok (.iadd, 1) := by decide +kernel
set_option maxRecDepth 20000 in
theorem dX8_findWeights_38 : decode cX8_findWeights 38 = .ok (.putfield 114, 3) := by decide +kernel
set_option maxRecDepth 20000 in
theorem dX8_findWeights_41 : decode cX8_findWeights 41 = .ok (.iload_n 1, 1) := by decide +kernel
set_option maxRecDepth 20000 in
theorem dX8_findWeights_42 : decode cX8_findWeights 42 = .ok (.aload_n 0, 1) := by decide +kernel
set_option maxRecDepth 20000 in
theorem dX8_findWeights_43 : decode cX8_findWeights 43 = .ok (.getfield 7, 3) := by decide +kernel
set_option maxRecDepth 20000 in
theorem dX8_findWeights_46 : decode cX8_findWeights 46 = .ok (.iload_n 2, 1) := by decide +kernel
set_option maxRecDepth 20000 in
theorem dX8_findWeights_47 : decode cX8_findWeights 47 = .ok (.iaload, 1) := by decide +kernel
set_option maxRecDepth 20000 in
theorem dX8_findWeights_48 : decode cX8_findWeights 48 = .ok (.iconst 1, 1) := by decide +kernel
set_option maxRecDepth 20000 in
theorem dX8_findWeights_49 : decode cX8_findWeights 49 = .ok (.iadd, 1) := by decide +kernel
set_option maxRecDepth 20000 in
theorem dX8_findWeights_50 : decode cX8_findWeights 50 = .ok (.imul, 1) := by decide +kernel
set_option maxRecDepth 20000 in
theorem dX8_findWeights_51 : decode cX8_findWeights 51 = .ok (.istore_n 1, 1) := by decide +kernel
set_option maxRecDepth 20000 in
theorem dX8_findWeights_52 : decode cX8_findWeights 52 = .ok (.iinc 2 1, 3) := by decide +kernel
set_option maxRecDepth 20000 in
theorem dX8_findWeights_55 : decode cX8_findWeights 55 = .ok (.goto (-46), 3) := by decide +kernel
set_option maxRecDepth 20000 in
theorem dX8_findWeights_58 : decode cX8_findWeights 58 = .ok (.return_, 1) := by decide +kernel
def f_X8_findWeights_9 (N : Nat) (c_places : Int32) (c_seats : Nat → Int32) : Nat → Int32 → (Nat → Int32) → Int32 → Int32 → Option (Int32 × (Nat → Int32))
  | 0, _, _, _, _ => none
  | n + 1, c_full, c_weight, v1, v2 =>
    (if c_places ≤ v2 then
      some (c_full, c_weight)
    else
      (wrI 6 c_weight v2 v1).bind fun t2 =>
      (rdI 6 c_seats v2).bind fun t3 =>
      (rdI 6 c_seats v2).bind fun t4 =>
      f_X8_findWeights_9 N c_places c_seats n (c_full + (v1 * t3)) t2 (v1 * (t4 + 1)) (v2 + 1))
set_option maxHeartbeats 4000000 in
set_option maxRecDepth 100000 in
theorem g_X8_findWeights_9 {κ : KC} {ω : KW} {A : Nat → Prop} {ad : Nat → Nat} {u_askers : Int32} {u_above : Int64} {u_below : Int64} {u_firsts : Int32} {u_freed : Int32} {u_whole : Int64} {N : Nat} {c_places : Int32} {c_seats : Nat → Int32}  {res : Int32 × (Nat → Int32)} : ∀ (n : Nat) {c_full : Int32} {c_weight : Nat → Int32} {v1 : Int32} {v2 : Int32}, f_X8_findWeights_9 N c_places c_seats n c_full c_weight v1 v2 = some res → GG mu_X8_findWeights κ ω A (QR κ ω A ad (none) (w_X8_findWeights c_places res.1 c_seats res.2 u_askers u_above u_below u_firsts u_freed u_whole)) ad 0 0 9 (w_X8_findWeights c_places c_full c_seats c_weight u_askers u_above u_below u_firsts u_freed u_whole) [some (.ref 0), some (.int v1), some (.int v2)] [] := by
  intro n
  induction n with
  | zero => intro c_full c_weight v1 v2 hf; exact ob_0 hf
  | succ n ih =>
    intro c_full c_weight v1 v2 hf
    refine G_iload_n dX8_findWeights_9 rfl rfl ?_
    refine G_aload_n dX8_findWeights_10 rfl rfl ?_
    refine G_get (v := .int c_places) F_X8_97 dX8_findWeights_11 rfl rfl ?_
    refine G_icmp_ge 58 dX8_findWeights_14 (by decide) (fun h1 => ?_) (fun h1 => ?_)
    · replace hf := ob_t h1 hf
      obtain rfl := os hf
      exact G_return dX8_findWeights_58 rfl
    · replace hf := ob_f h1 hf
      refine G_aload_n dX8_findWeights_17 rfl rfl ?_
      refine G_get (v := .ref 2) F_X8_19 dX8_findWeights_18 rfl rfl ?_
      refine G_iload_n dX8_findWeights_21 rfl rfl ?_
      refine G_iload_n dX8_findWeights_22 rfl rfl ?_
      obtain ⟨t2, ht2, hf⟩ := ob hf
      refine G_iast (w2 := (w_X8_findWeights c_places c_full c_seats t2 u_askers u_above u_below u_firsts u_freed u_whole)) dX8_findWeights_23 rfl ht2 rfl ?_
      refine G_aload_n dX8_findWeights_24 rfl rfl ?_
      refine G_dup dX8_findWeights_25 rfl ?_
      refine G_get (v := .int c_full) F_X8_114 dX8_findWeights_26 rfl rfl ?_
      refine G_iload_n dX8_findWeights_29 rfl rfl ?_
      refine G_aload_n dX8_findWeights_30 rfl rfl ?_
      refine G_get (v := .ref 1) F_X8_7 dX8_findWeights_31 rfl rfl ?_
      refine G_iload_n dX8_findWeights_34 rfl rfl ?_
      obtain ⟨t3, ht3, hf⟩ := ob hf
      refine G_iald dX8_findWeights_35 rfl ht3 ?_
      refine G_imul dX8_findWeights_36 ?_
      refine G_iadd dX8_findWeights_37 ?_
      refine G_put (w2 := (w_X8_findWeights c_places (c_full + (v1 * t3)) c_seats t2 u_askers u_above u_below u_firsts u_freed u_whole)) F_X8_114 dX8_findWeights_38 rfl rfl rfl (ltb rfl) rfl ?_
      refine G_iload_n dX8_findWeights_41 rfl rfl ?_
      refine G_aload_n dX8_findWeights_42 rfl rfl ?_
      refine G_get (v := .ref 1) F_X8_7 dX8_findWeights_43 rfl rfl ?_
      refine G_iload_n dX8_findWeights_46 rfl rfl ?_
      obtain ⟨t4, ht4, hf⟩ := ob hf
      refine G_iald dX8_findWeights_47 rfl ht4 ?_
      refine G_iconst 1 dX8_findWeights_48 (by decide) ?_
      refine G_iadd dX8_findWeights_49 ?_
      refine G_imul dX8_findWeights_50 ?_
      refine G_istore_n dX8_findWeights_51 rfl (ltb rfl) ?_
      change GG _ _ _ _ _ _ _ _ _ _ [some (.ref 0), some (.int (v1 * (t4 + 1))), some (.int v2)] _
      refine G_iinc 1 dX8_findWeights_52 (by decide) rfl (ltb rfl) ?_
      change GG _ _ _ _ _ _ _ _ _ _ [some (.ref 0), some (.int (v1 * (t4 + 1))), some (.int (v2 + 1))] _
      refine G_goto 9 dX8_findWeights_55 (by decide) ?_
      exact ih hf
def f_X8_findWeights (N : Nat) (c_places : Int32) (c_seats : Nat → Int32) (c_full : Int32) (c_weight : Nat → Int32)  : Option (Int32 × (Nat → Int32)) :=
  f_X8_findWeights_9 N c_places c_seats N 0 c_weight 1 0
set_option maxHeartbeats 4000000 in
set_option maxRecDepth 100000 in
theorem c_X8_findWeights {N : Nat} {c_places : Int32} {c_seats : Nat → Int32} {c_full : Int32} {c_weight : Nat → Int32} {u_askers : Int32} {u_above : Int64} {u_below : Int64} {u_firsts : Int32} {u_freed : Int32} {u_whole : Int64}  {res : Int32 × (Nat → Int32)} (hf : f_X8_findWeights N c_places c_seats c_full c_weight = some res) : Con mu_X8_findWeights [.ref 0] (w_X8_findWeights c_places c_full c_seats c_weight u_askers u_above u_below u_firsts u_freed u_whole) (none) (w_X8_findWeights c_places res.1 c_seats res.2 u_askers u_above u_below u_firsts u_freed u_whole) := by
  refine Con.mk (show plainName RX8 = true by decide +kernel) (leb rfl) (fun κ ω A ad => ?_)
  change GG mu_X8_findWeights κ ω A (QR κ ω A ad (none) (w_X8_findWeights c_places res.1 c_seats res.2 u_askers u_above u_below u_firsts u_freed u_whole)) ad 0 0 0 (w_X8_findWeights c_places c_full c_seats c_weight u_askers u_above u_below u_firsts u_freed u_whole) [some (.ref 0), none, none] []
  refine G_iconst 1 dX8_findWeights_0 (by decide) ?_
  refine G_istore_n dX8_findWeights_1 rfl (ltb rfl) ?_
  change GG _ _ _ _ _ _ _ _ _ _ [some (.ref 0), some (.int 1), none] _
  refine G_aload_n dX8_findWeights_2 rfl rfl ?_
  refine G_iconst 0 dX8_findWeights_3 (by decide) ?_
  refine G_put (w2 := (w_X8_findWeights c_places 0 c_seats c_weight u_askers u_above u_below u_firsts u_freed u_whole)) F_X8_114 dX8_findWeights_4 rfl rfl rfl (ltb rfl) rfl ?_
  refine G_iconst 0 dX8_findWeights_7 (by decide) ?_
  refine G_istore_n dX8_findWeights_8 rfl (ltb rfl) ?_
  change GG _ _ _ _ _ _ _ _ _ _ [some (.ref 0), some (.int 1), some (.int 0)] _
  exact g_X8_findWeights_9 N hf
set_option maxRecDepth 20000 in
theorem dX8_takes_0 : decode cX8_takes 0 = .ok (.iload_n 2, 1) := by decide +kernel
set_option maxRecDepth 20000 in
theorem dX8_takes_1 : decode cX8_takes 1 = .ok (.ifCond .ne 5, 3) := by decide +kernel
set_option maxRecDepth 20000 in
theorem dX8_takes_4 : decode cX8_takes 4 = .ok (.iload_n 3, 1) := by decide +kernel
set_option maxRecDepth 20000 in
theorem dX8_takes_5 : decode cX8_takes 5 = .ok (.ireturn, 1) := by decide +kernel
set_option maxRecDepth 20000 in
theorem dX8_takes_6 : decode cX8_takes 6 = .ok (.iload_n 2, 1) := by decide +kernel
set_option maxRecDepth 20000 in
theorem dX8_takes_7 : decode cX8_takes 7 = .ok (.iconst 1, 1) := by decide +kernel
set_option maxRecDepth 20000 in
theorem dX8_takes_8 : decode cX8_takes 8 = .ok (.isub, 1) := by decide +kernel
set_option maxRecDepth 20000 in
theorem dX8_takes_9 : decode cX8_takes 9 = .ok (.istore 4, 2) := by decide +kernel
set_option maxRecDepth 20000 in
theorem dX8_takes_11 : decode cX8_takes 11 = .ok (.iload 4, 2) := by decide +kernel
set_option maxRecDepth 20000 in
theorem dX8_takes_13 : decode cX8_takes 13 = .ok (.aload_n 0, 1) := by decide +kernel
set_option maxRecDepth 20000 in
theorem dX8_takes_14 : decode cX8_takes 14 = .ok (.getfield 97, 3) := by decide +kernel
set_option maxRecDepth 20000 in
theorem dX8_takes_17 : decode cX8_takes 17 = .ok (.if_icmp .ge 44, 3) := by decide +kernel
set_option maxRecDepth 20000 in
theorem dX8_takes_20 : decode cX8_takes 20 = .ok (.aload_n 0, 1) := by decide +kernel
set_option maxRecDepth 20000 in
theorem dX8_takes_21 : decode cX8_takes 21 = .ok (.getfield 13, 3) := by decide +kernel
set_option maxRecDepth 20000 in
theorem dX8_takes_24 : decode cX8_takes 24 = .ok (.bipush 6, 2) := by decide +kernel
set_option maxRecDepth 20000 in
theorem dX8_takes_26 : decode cX8_takes 26 = .ok (.iload_n 1, 1) := by decide +kernel
set_option maxRecDepth 20000 in
theorem dX8_takes_27 : decode cX8_takes 27 = .ok (.imul, 1) := by decide +kernel
set_option maxRecDepth 20000 in
theorem dX8_takes_28 : decode cX8_takes 28 = .ok (.iload 4, 2) := by decide +kernel
set_option maxRecDepth 20000 in
theorem dX8_takes_30 : decode cX8_takes 30 = .ok (.iadd, 1) := by decide +kernel
set_option maxRecDepth 20000 in
theorem dX8_takes_31 : decode cX8_takes 31 = .ok (.iaload, 1) := by decide +kernel
set_option maxRecDepth 20000 in
theorem dX8_takes_32 : decode cX8_takes 32 = .ok (.ifCond .le 29, 3) := by decide +kernel
set_option maxRecDepth 20000 in
theorem dX8_takes_35 : decode cX8_takes 35 = .ok (.iload_n 3, 1) := by decide +kernel
set_option maxRecDepth 20000 in
theorem dX8_takes_36 : decode cX8_takes 36 = .ok (.aload_n 0, 1) := by decide +kernel
set_option maxRecDepth 20000 in
theorem dX8_takes_37 : decode cX8_takes 37 = .ok (.getfield 19, 3) := by decide +kernel
set_option maxRecDepth 20000 in
theorem dX8_takes_40 : decode cX8_takes 40 = .ok (.iload 4, 2) := by decide +kernel
set_option maxRecDepth 20000 in
theorem dX8_takes_42 : decode cX8_takes 42 = .ok (.iaload, 1) := by decide +kernel
set_option maxRecDepth 20000 in
theorem dX8_takes_43 : decode cX8_takes 43 = .ok (.idiv, 1) := by decide +kernel
set_option maxRecDepth 20000 in
theorem dX8_takes_44 : decode cX8_takes 44 = .ok (.aload_n 0, 1) := by decide +kernel
set_option maxRecDepth 20000 in
theorem dX8_takes_45 : decode cX8_takes 45 = .ok (.getfield 7, 3) := by decide +kernel
set_option maxRecDepth 20000 in
theorem dX8_takes_48 : decode cX8_takes 48 = .ok (.iload 4, 2) := by decide +kernel
set_option maxRecDepth 20000 in
theorem dX8_takes_50 : decode cX8_takes 50 = .ok (.iaload, 1) := by decide +kernel
set_option maxRecDepth 20000 in
theorem dX8_takes_51 : decode cX8_takes 51 = .ok (.iconst 1, 1) := by decide +kernel
set_option maxRecDepth 20000 in
theorem dX8_takes_52 : decode cX8_takes 52 = .ok (.iadd, 1) := by decide +kernel
set_option maxRecDepth 20000 in
theorem dX8_takes_53 : decode cX8_takes 53 = .ok (.irem, 1) := by decide +kernel
set_option maxRecDepth 20000 in
theorem dX8_takes_54 : decode cX8_takes 54 = .ok (.ifCond .le 7, 3) := by decide +kernel
set_option maxRecDepth 20000 in
theorem dX8_takes_57 : decode cX8_takes 57 = .ok (.iconst 1, 1) := by decide +kernel
set_option maxRecDepth 20000 in
theorem dX8_takes_58 : decode cX8_takes 58 = .ok (.goto 4, 3) := by decide +kernel
set_option maxRecDepth 20000 in
theorem dX8_takes_61 : decode cX8_takes 61 = .ok (.iconst 0, 1) := by decide +kernel
set_option maxRecDepth 20000 in
theorem dX8_takes_62 : decode cX8_takes 62 = .ok (.istore 5, 2) := by decide +kernel
set_option maxRecDepth 20000 in
theorem dX8_takes_64 : decode cX8_takes 64 = .ok (.iload 5, 2) := by decide +kernel
set_option maxRecDepth 20000 in
theorem dX8_takes_66 : decode cX8_takes 66 = .ok (.ifCond .eq 15, 3) := by decide +kernel
set_option maxRecDepth 20000 in
theorem dX8_takes_69 : decode cX8_takes 69 = .ok (.iload_n 3, 1) := by decide +kernel
set_option maxRecDepth 20000 in
theorem dX8_takes_70 : decode cX8_takes 70 = .ok (.aload_n 0, 1) := by decide +kernel
set_option maxRecDepth 20000 in
theorem dX8_takes_71 : decode cX8_takes 71 = .ok (.getfield 19, 3) := by decide +kernel
set_option maxRecDepth 20000 in
theorem dX8_takes_74 : decode cX8_takes 74 = .ok (.iload 4, 2) := by decide +kernel
set_option maxRecDepth 20000 in
theorem dX8_takes_76 : decode cX8_takes 76 = .ok (.iaload, 1) := by decide +kernel
set_option maxRecDepth 20000 in
theorem dX8_takes_77 : decode cX8_takes 77 = .ok (.isub, 1) := by decide +kernel
set_option maxRecDepth 20000 in
theorem dX8_takes_78 : decode cX8_takes 78 = .ok (.goto 4, 3) := by decide +kernel
set_option maxRecDepth 20000 in
theorem dX8_takes_81 : decode cX8_takes 81 = .ok (.iconst (-1), 1) := by decide +kernel
set_option maxRecDepth 20000 in
theorem dX8_takes_82 : decode cX8_takes 82 = .ok (.ireturn, 1) := by decide +kernel
def f_X8_takes_62 (N : Nat) (c_places : Int32) (c_seats : Nat → Int32) (c_weight : Nat → Int32) (c_wish : Nat → Int32) (v3 : Int32) (v4 : Int32) (s0 : Int32) : Option (Int32) :=
    (if s0 = 0 then
      some (-1 : Int32)
    else
      (rdI 6 c_weight v4).bind fun t2 =>
      some (v3 - t2))
set_option maxHeartbeats 4000000 in
set_option maxRecDepth 100000 in
theorem g_X8_takes_62 {κ : KC} {ω : KW} {A : Nat → Prop} {ad : Nat → Nat} {u_askers : Int32} {u_above : Int64} {u_below : Int64} {u_full : Int32} {u_firsts : Int32} {u_freed : Int32} {u_whole : Int64} {N : Nat} {c_places : Int32} {c_seats : Nat → Int32} {c_weight : Nat → Int32} {c_wish : Nat → Int32}  {res : Int32} {v3 : Int32} {v4 : Int32} {s0 : Int32} (hf : f_X8_takes_62 N c_places c_seats c_weight c_wish v3 v4 s0 = some res) : GG mu_X8_takes κ ω A (QR κ ω A ad (some (.int res)) (w_X8_takes c_places c_seats c_weight c_wish u_askers u_above u_below u_full u_firsts u_freed u_whole)) ad 0 0 62 (w_X8_takes c_places c_seats c_weight c_wish u_askers u_above u_below u_full u_firsts u_freed u_whole) [some (.ref 0), none, none, some (.int v3), some (.int v4), none] [.int s0] := by
  refine G_istore dX8_takes_62 (ltb rfl) ?_
  change GG _ _ _ _ _ _ _ _ _ _ [some (.ref 0), none, none, some (.int v3), some (.int v4), some (.int s0)] _
  refine G_iload dX8_takes_64 rfl ?_
  refine G_if_eq 81 dX8_takes_66 (by decide) (fun h1 => ?_) (fun h1 => ?_)
  · replace hf := ob_t h1 hf
    refine G_iconst (-1 : Int32) dX8_takes_81 (by decide) ?_
    obtain rfl := os hf
    exact G_ireturn dX8_takes_82 rfl
  · replace hf := ob_f h1 hf
    refine G_iload_n dX8_takes_69 rfl rfl ?_
    refine G_aload_n dX8_takes_70 rfl rfl ?_
    refine G_get (v := .ref 2) F_X8_19 dX8_takes_71 rfl rfl ?_
    refine G_iload dX8_takes_74 rfl ?_
    obtain ⟨t2, ht2, hf⟩ := ob hf
    refine G_iald dX8_takes_76 rfl ht2 ?_
    refine G_isub dX8_takes_77 ?_
    refine G_goto 82 dX8_takes_78 (by decide) ?_
    obtain rfl := os hf
    exact G_ireturn dX8_takes_82 rfl
def f_X8_takes_61 (N : Nat) (c_places : Int32) (c_seats : Nat → Int32) (c_weight : Nat → Int32) (c_wish : Nat → Int32) (v3 : Int32) (v4 : Int32) : Option (Int32) :=
    f_X8_takes_62 N c_places c_seats c_weight c_wish v3 v4 0
set_option maxHeartbeats 4000000 in
set_option maxRecDepth 100000 in
theorem g_X8_takes_61 {κ : KC} {ω : KW} {A : Nat → Prop} {ad : Nat → Nat} {u_askers : Int32} {u_above : Int64} {u_below : Int64} {u_full : Int32} {u_firsts : Int32} {u_freed : Int32} {u_whole : Int64} {N : Nat} {c_places : Int32} {c_seats : Nat → Int32} {c_weight : Nat → Int32} {c_wish : Nat → Int32}  {res : Int32} {v3 : Int32} {v4 : Int32} (hf : f_X8_takes_61 N c_places c_seats c_weight c_wish v3 v4 = some res) : GG mu_X8_takes κ ω A (QR κ ω A ad (some (.int res)) (w_X8_takes c_places c_seats c_weight c_wish u_askers u_above u_below u_full u_firsts u_freed u_whole)) ad 0 0 61 (w_X8_takes c_places c_seats c_weight c_wish u_askers u_above u_below u_full u_firsts u_freed u_whole) [some (.ref 0), none, none, some (.int v3), some (.int v4), none] [] := by
  refine G_iconst 0 dX8_takes_61 (by decide) ?_
  exact g_X8_takes_62 hf
def f_X8_takes (N : Nat) (c_places : Int32) (c_seats : Nat → Int32) (c_weight : Nat → Int32) (c_wish : Nat → Int32) (a1 : Int32) (a2 : Int32) (a3 : Int32) : Option (Int32) :=
  (if a2 = 0 then
    some a3
  else
    (if c_places ≤ (a2 - 1) then
      f_X8_takes_61 N c_places c_seats c_weight c_wish a3 (a2 - 1)
    else
      (rdI 48 c_wish ((6 * a1) + (a2 - 1))).bind fun t3 =>
      (if t3 ≤ 0 then
        f_X8_takes_61 N c_places c_seats c_weight c_wish a3 (a2 - 1)
      else
        (rdI 6 c_weight (a2 - 1)).bind fun t5 =>
        if t5 = 0 then none else
        (rdI 6 c_seats (a2 - 1)).bind fun t7 =>
        if (t7 + 1) = 0 then none else
        (if ((a3 / t5) - (a3 / t5) / (t7 + 1) * (t7 + 1)) ≤ 0 then
          f_X8_takes_61 N c_places c_seats c_weight c_wish a3 (a2 - 1)
        else
          f_X8_takes_62 N c_places c_seats c_weight c_wish a3 (a2 - 1) 1))))
set_option maxHeartbeats 4000000 in
set_option maxRecDepth 100000 in
theorem c_X8_takes {N : Nat} {c_places : Int32} {c_seats : Nat → Int32} {c_weight : Nat → Int32} {c_wish : Nat → Int32}  {u_askers : Int32} {u_above : Int64} {u_below : Int64} {u_full : Int32} {u_firsts : Int32} {u_freed : Int32} {u_whole : Int64} {a1 : Int32} {a2 : Int32} {a3 : Int32} {res : Int32} (hf : f_X8_takes N c_places c_seats c_weight c_wish a1 a2 a3 = some res) : Con mu_X8_takes [.ref 0, .int a1, .int a2, .int a3] (w_X8_takes c_places c_seats c_weight c_wish u_askers u_above u_below u_full u_firsts u_freed u_whole) (some (.int res)) (w_X8_takes c_places c_seats c_weight c_wish u_askers u_above u_below u_full u_firsts u_freed u_whole) := by
  refine Con.mk (show plainName RX8 = true by decide +kernel) (leb rfl) (fun κ ω A ad => ?_)
  change GG mu_X8_takes κ ω A (QR κ ω A ad (some (.int res)) (w_X8_takes c_places c_seats c_weight c_wish u_askers u_above u_below u_full u_firsts u_freed u_whole)) ad 0 0 0 (w_X8_takes c_places c_seats c_weight c_wish u_askers u_above u_below u_full u_firsts u_freed u_whole) [some (.ref 0), some (.int a1), some (.int a2), some (.int a3), none, none] []
  refine G_iload_n dX8_takes_0 rfl rfl ?_
  refine G_if_ne 6 dX8_takes_1 (by decide) (fun h1 => ?_) (fun h1 => ?_)
  · replace hf := ob_f h1 hf
    refine G_iload_n dX8_takes_6 rfl rfl ?_
    refine G_iconst 1 dX8_takes_7 (by decide) ?_
    refine G_isub dX8_takes_8 ?_
    refine G_istore dX8_takes_9 (ltb rfl) ?_
    change GG _ _ _ _ _ _ _ _ _ _ [some (.ref 0), some (.int a1), some (.int a2), some (.int a3), some (.int (a2 - 1)), none] _
    refine G_iload dX8_takes_11 rfl ?_
    refine G_aload_n dX8_takes_13 rfl rfl ?_
    refine G_get (v := .int c_places) F_X8_97 dX8_takes_14 rfl rfl ?_
    refine G_icmp_ge 61 dX8_takes_17 (by decide) (fun h2 => ?_) (fun h2 => ?_)
    · replace hf := ob_t h2 hf
      refine GG.sb (lv2 := [some (.ref 0), none, none, some (.int a3), some (.int (a2 - 1)), none]) ?_ (lvS_v rfl (lvS_n (lvS_n (lvS_v rfl (lvS_v rfl (lvS_n (lvS_e)))))))
      exact g_X8_takes_61 hf
    · replace hf := ob_f h2 hf
      refine G_aload_n dX8_takes_20 rfl rfl ?_
      refine G_get (v := .ref 3) F_X8_13 dX8_takes_21 rfl rfl ?_
      refine G_bipush 6 dX8_takes_24 (by decide) ?_
      refine G_iload_n dX8_takes_26 rfl rfl ?_
      refine G_imul dX8_takes_27 ?_
      refine G_iload dX8_takes_28 rfl ?_
      refine G_iadd dX8_takes_30 ?_
      obtain ⟨t3, ht3, hf⟩ := ob hf
      refine G_iald dX8_takes_31 rfl ht3 ?_
      refine G_if_le 61 dX8_takes_32 (by decide) (fun h4 => ?_) (fun h4 => ?_)
      · replace hf := ob_t h4 hf
        refine GG.sb (lv2 := [some (.ref 0), none, none, some (.int a3), some (.int (a2 - 1)), none]) ?_ (lvS_v rfl (lvS_n (lvS_n (lvS_v rfl (lvS_v rfl (lvS_n (lvS_e)))))))
        exact g_X8_takes_61 hf
      · replace hf := ob_f h4 hf
        refine G_iload_n dX8_takes_35 rfl rfl ?_
        refine G_aload_n dX8_takes_36 rfl rfl ?_
        refine G_get (v := .ref 2) F_X8_19 dX8_takes_37 rfl rfl ?_
        refine G_iload dX8_takes_40 rfl ?_
        obtain ⟨t5, ht5, hf⟩ := ob hf
        refine G_iald dX8_takes_42 rfl ht5 ?_
        obtain ⟨h6, hf⟩ := ob_z hf
        refine G_idiv dX8_takes_43 h6 ?_
        refine G_aload_n dX8_takes_44 rfl rfl ?_
        refine G_get (v := .ref 1) F_X8_7 dX8_takes_45 rfl rfl ?_
        refine G_iload dX8_takes_48 rfl ?_
        obtain ⟨t7, ht7, hf⟩ := ob hf
        refine G_iald dX8_takes_50 rfl ht7 ?_
        refine G_iconst 1 dX8_takes_51 (by decide) ?_
        refine G_iadd dX8_takes_52 ?_
        obtain ⟨h8, hf⟩ := ob_z hf
        refine G_irem dX8_takes_53 h8 ?_
        refine G_if_le 61 dX8_takes_54 (by decide) (fun h9 => ?_) (fun h9 => ?_)
        · replace hf := ob_t h9 hf
          refine GG.sb (lv2 := [some (.ref 0), none, none, some (.int a3), some (.int (a2 - 1)), none]) ?_ (lvS_v rfl (lvS_n (lvS_n (lvS_v rfl (lvS_v rfl (lvS_n (lvS_e)))))))
          exact g_X8_takes_61 hf
        · replace hf := ob_f h9 hf
          refine G_iconst 1 dX8_takes_57 (by decide) ?_
          refine G_goto 62 dX8_takes_58 (by decide) ?_
          refine GG.sb (lv2 := [some (.ref 0), none, none, some (.int a3), some (.int (a2 - 1)), none]) ?_ (lvS_v rfl (lvS_n (lvS_n (lvS_v rfl (lvS_v rfl (lvS_n (lvS_e)))))))
          exact g_X8_takes_62 hf
  · replace hf := ob_t h1 hf
    refine G_iload_n dX8_takes_4 rfl rfl ?_
    obtain rfl := os hf
    exact G_ireturn dX8_takes_5 rfl
set_option maxRecDepth 20000 in
theorem dX8_findCount_0 : decode cX8_findCount 0 = .ok (.aload_n 0, 1) := by decide +kernel
set_option maxRecDepth 20000 in
theorem dX8_findCount_1 : decode cX8_findCount 1 = .ok (.invokevirtual 117, 3) := by decide +kernel
set_option maxRecDepth 20000 in
theorem dX8_findCount_4 : decode cX8_findCount 4 = .ok (.iconst 0, 1) := by decide +kernel
set_option maxRecDepth 20000 in
theorem dX8_findCount_5 : decode cX8_findCount 5 = .ok (.istore_n 1, 1) := by decide +kernel
set_option maxRecDepth 20000 in
theorem dX8_findCount_6 : decode cX8_findCount 6 = .ok (.iload_n 1, 1) := by decide +kernel
set_option maxRecDepth 20000 in
theorem dX8_findCount_7 : decode cX8_findCount 7 = .ok (.aload_n 0, 1) := by decide +kernel
set_option maxRecDepth 20000 in
theorem dX8_findCount_8 : decode cX8_findCount 8 = .ok (.getfield 114, 3) := by decide +kernel
set_option maxRecDepth 20000 in
theorem dX8_findCount_11 : decode cX8_findCount 11 = .ok (.if_icmp .gt 25, 3) := by decide +kernel
set_option maxRecDepth 20000 in
theorem dX8_findCount_14 : decode cX8_findCount 14 = .ok (.aload_n 0, 1) := by decide +kernel
set_option maxRecDepth 20000 in
theorem dX8_findCount_15 : decode cX8_findCount 15 = .ok (.getfield 23, 3) := by decide +kernel
set_option maxRecDepth 20000 in
theorem dX8_findCount_18 : decode cX8_findCount 18 = .ok (.sipush 4096, 3) := by decide +kernel
set_option maxRecDepth 20000 in
theorem dX8_findCount_21 : decode cX8_findCount 21 = .ok (.aload_n 0, 1) := by decide +kernel
set_option maxRecDepth 20000 in
theorem dX8_findCount_22 : decode cX8_findCount 22 = .ok (.getfield 89, 3) := by decide +kernel
set_option maxRecDepth 20000 in
theorem dX8_findCount_25 : decode cX8_findCount 25 = .ok (.imul, 1) := by decide +kernel
set_option maxRecDepth 20000 in
theorem dX8_findCount_26 : decode cX8_findCount 26 = .ok (.iload_n 1, 1) := by decide +kernel
set_option maxRecDepth 20000 in
theorem dX8_findCount_27 : decode cX8_findCount 27 = .ok (.iadd, 1) := by decide +kernel
set_option maxRecDepth 20000 in
theorem dX8_findCount_28 : decode cX8_findCount 28 = .ok (.lconst 1, 1) := by decide +kernel
set_option maxRecDepth 20000 in
theorem dX8_findCount_29 : decode cX8_findCount 29 = .ok (.lastore, 1) := by decide +kernel
set_option maxRecDepth 20000 in
theorem dX8_findCount_30 : decode cX8_findCount 30 = .ok (.iinc 1 1, 3) := by decide +kernel
set_option maxRecDepth 20000 in
theorem dX8_findCount_33 : decode cX8_findCount 33 = .ok (.goto (-27), 3) := by decide +kernel
set_option maxRecDepth 20000 in
theorem dX8_findCount_36 : decode cX8_findCount 36 = .ok (.aload_n 0, 1) := by decide +kernel
set_option maxRecDepth 20000 in
theorem dX8_findCount_37 : decode cX8_findCount 37 = .ok (.getfield 89, 3) := by decide +kernel
set_option maxRecDepth 20000 in
theorem dX8_findCount_40 : decode cX8_findCount 40 = .ok (.iconst 1, 1) := by decide +kernel
set_option maxRecDepth 20000 in
theorem dX8_findCount_41 : decode cX8_findCount 41 = .ok (.isub, 1) := by decide +kernel
set_option maxRecDepth 20000 in
theorem dX8_findCount_42 : decode cX8_findCount 42 = .ok (.istore_n 1, 1) := by decide +kernel
set_option maxRecDepth 20000 in
theorem dX8_findCount_43 : decode cX8_findCount 43 = .ok (.iload_n 1, 1) := by decide +kernel
set_option maxRecDepth 20000 in
theorem dX8_findCount_44 : decode cX8_findCount 44 = .ok (.ifCond .lt 96, 3) := by decide +kernel
set_option maxRecDepth 20000 in
theorem dX8_findCount_47 : decode cX8_findCount 47 = .ok (.iconst 0, 1) := by decide +kernel
set_option maxRecDepth 20000 in
theorem dX8_findCount_48 : decode cX8_findCount 48 = .ok (.istore_n 2, 1) := by decide +kernel
set_option maxRecDepth 20000 in
theorem dX8_findCount_49 : decode cX8_findCount 49 = .ok (.iload_n 2, 1) := by decide +kernel
set_option maxRecDepth 20000 in
theorem dX8_findCount_50 : decode cX8_findCount 50 = .ok (.aload_n 0, 1) := by decide +kernel
set_option maxRecDepth 20000 in
theorem dX8_findCount_51 : decode cX8_findCount 51 = .ok (.getfield 114, 3) := by decide +kernel
set_option maxRecDepth 20000 in
theorem dX8_findCount_54 : decode cX8_findCount 54 = .ok (.if_icmp .gt 80, 3) := by decide +kernel
set_option maxRecDepth 20000 in
theorem dX8_findCount_57 : decode cX8_findCount 57 = .ok (.lconst 0, 1) := by decide +kernel
set_option maxRecDepth 20000 in
theorem dX8_findCount_58 : decode cX8_findCount 58 = .ok (.lstore_n 3, 1) := by decide +kernel
set_option maxRecDepth 20000 in
theorem dX8_findCount_59 : decode cX8_findCount 59 = .ok (.iconst 0, 1) := by decide +kernel
set_option maxRecDepth 20000 in
theorem dX8_findCount_60 : decode cX8_findCount 60 = .ok (.istore 5, 2) := by decide +kernel
set_option maxRecDepth 20000 in
theorem dX8_findCount_62 : decode cX8_findCount 62 = .ok (.iload 5, 2) := by decide +kernel
set_option maxRecDepth 20000 in
theorem dX8_findCount_64 : decode cX8_findCount 64 = .ok (.aload_n 0, 1) := by decide +kernel
set_option maxRecDepth 20000 in
theorem dX8_findCount_65 : decode cX8_findCount 65 = .ok (.getfield 97, 3) := by decide +kernel
set_option maxRecDepth 20000 in
theorem dX8_findCount_68 : decode cX8_findCount 68 = .ok (.if_icmp .gt 47, 3) := by decide +kernel
set_option maxRecDepth 20000 in
theorem dX8_findCount_71 : decode cX8_findCount 71 = .ok (.aload_n 0, 1) := by decide +kernel
set_option maxRecDepth 20000 in
theorem dX8_findCount_72 : decode cX8_findCount 72 = .ok (.iload_n 1, 1) := by decide +kernel
set_option maxRecDepth 20000 in
theorem dX8_findCount_73 : decode cX8_findCount 73 = .ok (.iload 5, 2) := by decide +kernel
set_option maxRecDepth 20000 in
theorem dX8_findCount_75 : decode cX8_findCount 75 = .ok (.iload_n 2, 1) := by decide +kernel
set_option maxRecDepth 20000 in
theorem dX8_findCount_76 : decode cX8_findCount 76 = .ok (.invokevirtual 120, 3) := by decide +kernel
set_option maxRecDepth 20000 in
theorem dX8_findCount_79 : decode cX8_findCount 79 = .ok (.istore 6, 2) := by decide +kernel
set_option maxRecDepth 20000 in
theorem dX8_findCount_81 : decode cX8_findCount 81 = .ok (.lload_n 3, 1) := by decide +kernel
set_option maxRecDepth 20000 in
theorem dX8_findCount_82 : decode cX8_findCount 82 = .ok (.iload 6, 2) := by decide +kernel
set_option maxRecDepth 20000 in
theorem dX8_findCount_84 : decode cX8_findCount 84 = .ok (.iconst (-1), 1) := by decide +kernel
set_option maxRecDepth 20000 in
theorem dX8_findCount_85 : decode cX8_findCount 85 = .ok (.if_icmp .ne 7, 3) := by decide +kernel
set_option maxRecDepth 20000 in
theorem dX8_findCount_88 : decode cX8_findCount 88 = .ok (.lconst 0, 1) := by decide +kernel
set_option maxRecDepth 20000 in
theorem dX8_findCount_89 : decode cX8_findCount 89 = .ok (.goto 18, 3) := by decide +kernel
set_option maxRecDepth 20000 in
theorem dX8_findCount_92 : decode cX8_findCount 92 = .ok (.aload_n 0, 1) := by decide +kernel
set_option maxRecDepth 20000 in
theorem dX8_findCount_93 : decode cX8_findCount 93 = .ok (.getfield 23, 3) := by decide +kernel
set_option maxRecDepth 20000 in
theorem dX8_findCount_96 : decode cX8_findCount 96 = .ok (.sipush 4096, 3) := by decide +kernel
set_option maxRecDepth 20000 in
theorem dX8_findCount_99 : decode cX8_findCount 99 = .ok (.iload_n 1, 1) := by decide +kernel
set_option maxRecDepth 20000 in
theorem dX8_findCount_100 : decode cX8_findCount 100 = .ok (.iconst 1, 1) := by decide +kernel
set_option maxRecDepth 20000 in
theorem dX8_findCount_101 : decode cX8_findCount 101 = .ok (.iadd, 1) := by decide +kernel
set_option maxRecDepth 20000 in
theorem dX8_findCount_102 : decode cX8_findCount 102 = .ok (.imul, 1) := by decide +kernel
set_option maxRecDepth 20000 in
theorem dX8_findCount_103 : decode cX8_findCount 103 = .ok (.iload 6, 2) := by decide +kernel
set_option maxRecDepth 20000 in
theorem dX8_findCount_105 : decode cX8_findCount 105 = .ok (.iadd, 1) := by decide +kernel
set_option maxRecDepth 20000 in
theorem dX8_findCount_106 : decode cX8_findCount 106 = .ok (.laload, 1) := by decide +kernel
set_option maxRecDepth 20000 in
theorem dX8_findCount_107 : decode cX8_findCount 107 = .ok (.ladd, 1) := by decide +kernel
set_option maxRecDepth 20000 in
theorem dX8_findCount_108 : decode cX8_findCount 108 = .ok (.lstore_n 3, 1) := by decide +kernel
set_option maxRecDepth 20000 in
theorem dX8_findCount_109 : decode cX8_findCount 109 = .ok (.iinc 5 1, 3) := by decide +kernel
set_option maxRecDepth 20000 in
theorem dX8_findCount_112 : decode cX8_findCount 112 = .ok (.goto (-50), 3) := by decide +kernel
set_option maxRecDepth 20000 in
theorem dX8_findCount_115 : decode cX8_findCount 115 = .ok (.aload_n 0, 1) := by decide +kernel
set_option maxRecDepth 20000 in
theorem dX8_findCount_116 : decode cX8_findCount 116 = .ok (.getfield 23, 3) := by decide +kernel
set_option maxRecDepth 20000 in
theorem dX8_findCount_119 : decode cX8_findCount 119 = .ok (.sipush 4096, 3) := by decide +kernel
set_option maxRecDepth 20000 in
theorem dX8_findCount_122 : decode cX8_findCount 122 = .ok (.iload_n 1, 1) := by decide +kernel
set_option maxRecDepth 20000 in
theorem dX8_findCount_123 : decode cX8_findCount 123 = .ok (.imul, 1) := by decide +kernel
set_option maxRecDepth 20000 in
theorem dX8_findCount_124 : decode cX8_findCount 124 = .ok (.iload_n 2, 1) := by decide +kernel
set_option maxRecDepth 20000 in
theorem dX8_findCount_125 : decode cX8_findCount 125 = .ok (.iadd, 1) := by decide +kernel
set_option maxRecDepth 20000 in
theorem dX8_findCount_126 : decode cX8_findCount 126 = .ok (.lload_n 3, 1) := by decide +kernel
set_option maxRecDepth 20000 in
theorem dX8_findCount_127 : decode cX8_findCount 127 = .ok (.lastore, 1) := by decide +kernel
set_option maxRecDepth 20000 in
theorem dX8_findCount_128 : decode cX8_findCount 128 = .ok (.iinc 2 1, 3) := by decide +kernel
set_option maxRecDepth 20000 in
theorem dX8_findCount_131 : decode cX8_findCount 131 = .ok (.goto (-82), 3) := by decide +kernel
set_option maxRecDepth 20000 in
theorem dX8_findCount_134 : decode cX8_findCount 134 = .ok (.iinc 1 (-1), 3) := by decide +kernel
set_option maxRecDepth 20000 in
theorem dX8_findCount_137 : decode cX8_findCount 137 = .ok (.goto (-94), 3) := by decide +kernel
set_option maxRecDepth 20000 in
theorem dX8_findCount_140 : decode cX8_findCount 140 = .ok (.return_, 1) := by decide +kernel
def f_X8_findCount_62 (N : Nat) (c_askers : Int32) (c_places : Int32) (c_seats : Nat → Int32) (c_wish : Nat → Int32) (k49 : Int32 → (Nat → Int64) → (Nat → Int32) → Int32 → Int32 → Option (Int32 × (Nat → Int64) × (Nat → Int32))) : Nat → Int32 → (Nat → Int64) → (Nat → Int32) → Int32 → Int32 → Int64 → Int32 → Option (Int32 × (Nat → Int64) × (Nat → Int32))
  | 0, _, _, _, _, _, _, _ => none
  | n + 1, c_full, c_count, c_weight, v1, v2, v3, v5 =>
    (if c_places < v5 then
      (wrL 36864 c_count ((4096 * v1) + v2) v3).bind fun t2 =>
      k49 c_full t2 c_weight v1 (v2 + 1)
    else
      (f_X8_takes N c_places c_seats c_weight c_wish v1 v5 v2).bind fun r3 =>
      (if r3 = (-1 : Int32) then
        f_X8_findCount_62 N c_askers c_places c_seats c_wish k49 n c_full c_count c_weight v1 v2 (v3 + 0) (v5 + 1)
      else
        (rdL 36864 c_count ((4096 * (v1 + 1)) + r3)).bind fun t6 =>
        f_X8_findCount_62 N c_askers c_places c_seats c_wish k49 n c_full c_count c_weight v1 v2 (v3 + t6) (v5 + 1)))
set_option maxHeartbeats 4000000 in
set_option maxRecDepth 100000 in
theorem g_X8_findCount_62 {κ : KC} {ω : KW} {A : Nat → Prop} {ad : Nat → Nat} {u_above : Int64} {u_below : Int64} {u_firsts : Int32} {u_freed : Int32} {u_whole : Int64} {N : Nat} {c_askers : Int32} {c_places : Int32} {c_seats : Nat → Int32} {c_wish : Nat → Int32}  {k49 : Int32 → (Nat → Int64) → (Nat → Int32) → Int32 → Int32 → Option (Int32 × (Nat → Int64) × (Nat → Int32))} {res : Int32 × (Nat → Int64) × (Nat → Int32)} (hk49 : ∀ {c_full : Int32} {c_count : Nat → Int64} {c_weight : Nat → Int32} {v1 : Int32} {v2 : Int32}, k49 c_full c_count c_weight v1 v2 = some res → GG mu_X8_findCount κ ω A (QR κ ω A ad (none) (w_X8_findCount c_askers c_places res.1 res.2.1 c_seats res.2.2 c_wish u_above u_below u_firsts u_freed u_whole)) ad 0 0 49 (w_X8_findCount c_askers c_places c_full c_count c_seats c_weight c_wish u_above u_below u_firsts u_freed u_whole) [some (.ref 0), some (.int v1), some (.int v2), none, none, none, none] []) : ∀ (n : Nat) {c_full : Int32} {c_count : Nat → Int64} {c_weight : Nat → Int32} {v1 : Int32} {v2 : Int32} {v3 : Int64} {v5 : Int32}, f_X8_findCount_62 N c_askers c_places c_seats c_wish k49 n c_full c_count c_weight v1 v2 v3 v5 = some res → GG mu_X8_findCount κ ω A (QR κ ω A ad (none) (w_X8_findCount c_askers c_places res.1 res.2.1 c_seats res.2.2 c_wish u_above u_below u_firsts u_freed u_whole)) ad 0 0 62 (w_X8_findCount c_askers c_places c_full c_count c_seats c_weight c_wish u_above u_below u_firsts u_freed u_whole) [some (.ref 0), some (.int v1), some (.int v2), some (.long v3), none, some (.int v5), none] [] := by
  intro n
  induction n with
  | zero => intro c_full c_count c_weight v1 v2 v3 v5 hf; exact ob_0 hf
  | succ n ih =>
    intro c_full c_count c_weight v1 v2 v3 v5 hf
    refine G_iload dX8_findCount_62 rfl ?_
    refine G_aload_n dX8_findCount_64 rfl rfl ?_
    refine G_get (v := .int c_places) F_X8_97 dX8_findCount_65 rfl rfl ?_
    refine G_icmp_gt 115 dX8_findCount_68 (by decide) (fun h1 => ?_) (fun h1 => ?_)
    · replace hf := ob_t h1 hf
      refine G_aload_n dX8_findCount_115 rfl rfl ?_
      refine G_get (v := .ref 1) F_X8_23 dX8_findCount_116 rfl rfl ?_
      refine G_sipush 4096 dX8_findCount_119 (by decide) ?_
      refine G_iload_n dX8_findCount_122 rfl rfl ?_
      refine G_imul dX8_findCount_123 ?_
      refine G_iload_n dX8_findCount_124 rfl rfl ?_
      refine G_iadd dX8_findCount_125 ?_
      refine G_lload_n dX8_findCount_126 rfl rfl ?_
      obtain ⟨t2, ht2, hf⟩ := ob hf
      refine G_last (w2 := (w_X8_findCount c_askers c_places c_full t2 c_seats c_weight c_wish u_above u_below u_firsts u_freed u_whole)) dX8_findCount_127 rfl ht2 rfl ?_
      refine G_iinc 1 dX8_findCount_128 (by decide) rfl (ltb rfl) ?_
      change GG _ _ _ _ _ _ _ _ _ _ [some (.ref 0), some (.int v1), some (.int (v2 + 1)), some (.long v3), none, some (.int v5), none] _
      refine G_goto 49 dX8_findCount_131 (by decide) ?_
      refine GG.sb (lv2 := [some (.ref 0), some (.int v1), some (.int (v2 + 1)), none, none, none, none]) ?_ (lvS_v rfl (lvS_v rfl (lvS_v rfl (lvS_n (lvS_n (lvS_n (lvS_n (lvS_e))))))))
      exact hk49 hf
    · replace hf := ob_f h1 hf
      refine G_aload_n dX8_findCount_71 rfl rfl ?_
      refine G_iload_n dX8_findCount_72 rfl rfl ?_
      refine G_iload dX8_findCount_73 rfl ?_
      refine G_iload_n dX8_findCount_75 rfl rfl ?_
      obtain ⟨r3, hc4, hf⟩ := ob hf
      refine G_callV (μ2 := mu_X8_takes) (As := [.int v1, .int v5, .int v2]) (w2 := (w_X8_findCount c_askers c_places c_full c_count c_seats c_weight c_wish u_above u_below u_firsts u_freed u_whole)) (wc := (w_X8_takes c_places c_seats c_weight c_wish c_askers u_above u_below c_full u_firsts u_freed u_whole)) (wc2 := (w_X8_takes c_places c_seats c_weight c_wish c_askers u_above u_below c_full u_firsts u_freed u_whole)) (rest := []) (rv := [.int r3]) [0, 2, 3, 4] [1000, 1, 1001, 1002, 1003, 1004, 1005, 1006, 1007, 1008, 1009, 1010, 1011, 1012, 1013, 1014, 1015, 1016] [1] [1, 0, 2, 3, 4] (c_X8_takes hc4) cw_X8_takes m_X8_120 dX8_findCount_76 rfl ⟨leb rfl, leb rfl⟩ ⟨rfl, rfl⟩ rfl ⟨_, rfl, rfl⟩ (Fit.mk rfl rfl rfl) rfl (leb rfl) (ROsub.nil rfl rfl) rfl ?_
      change GG _ _ _ _ _ _ _ _ _ (w_X8_findCount c_askers c_places c_full c_count c_seats c_weight c_wish u_above u_below u_firsts u_freed u_whole) [some (.ref 0), some (.int v1), some (.int v2), some (.long v3), none, some (.int v5), none] [.int r3]
      refine G_istore dX8_findCount_79 (ltb rfl) ?_
      change GG _ _ _ _ _ _ _ _ _ _ [some (.ref 0), some (.int v1), some (.int v2), some (.long v3), none, some (.int v5), some (.int r3)] _
      refine G_lload_n dX8_findCount_81 rfl rfl ?_
      refine G_iload dX8_findCount_82 rfl ?_
      refine G_iconst (-1 : Int32) dX8_findCount_84 (by decide) ?_
      refine G_icmp_ne 92 dX8_findCount_85 (by decide) (fun h5 => ?_) (fun h5 => ?_)
      · replace hf := ob_f h5 hf
        refine G_aload_n dX8_findCount_92 rfl rfl ?_
        refine G_get (v := .ref 1) F_X8_23 dX8_findCount_93 rfl rfl ?_
        refine G_sipush 4096 dX8_findCount_96 (by decide) ?_
        refine G_iload_n dX8_findCount_99 rfl rfl ?_
        refine G_iconst 1 dX8_findCount_100 (by decide) ?_
        refine G_iadd dX8_findCount_101 ?_
        refine G_imul dX8_findCount_102 ?_
        refine G_iload dX8_findCount_103 rfl ?_
        refine G_iadd dX8_findCount_105 ?_
        obtain ⟨t6, ht6, hf⟩ := ob hf
        refine G_lald dX8_findCount_106 rfl ht6 ?_
        refine G_ladd dX8_findCount_107 ?_
        refine G_lstore_n dX8_findCount_108 rfl (ltb rfl) ?_
        change GG _ _ _ _ _ _ _ _ _ _ [some (.ref 0), some (.int v1), some (.int v2), some (.long (v3 + t6)), none, some (.int v5), some (.int r3)] _
        refine G_iinc 1 dX8_findCount_109 (by decide) rfl (ltb rfl) ?_
        change GG _ _ _ _ _ _ _ _ _ _ [some (.ref 0), some (.int v1), some (.int v2), some (.long (v3 + t6)), none, some (.int (v5 + 1)), some (.int r3)] _
        refine G_goto 62 dX8_findCount_112 (by decide) ?_
        refine GG.sb (lv2 := [some (.ref 0), some (.int v1), some (.int v2), some (.long (v3 + t6)), none, some (.int (v5 + 1)), none]) ?_ (lvS_v rfl (lvS_v rfl (lvS_v rfl (lvS_v rfl (lvS_n (lvS_v rfl (lvS_n (lvS_e))))))))
        exact ih hf
      · replace hf := ob_t h5 hf
        refine G_lconst 0 dX8_findCount_88 (by decide) ?_
        refine G_goto 107 dX8_findCount_89 (by decide) ?_
        refine G_ladd dX8_findCount_107 ?_
        refine G_lstore_n dX8_findCount_108 rfl (ltb rfl) ?_
        change GG _ _ _ _ _ _ _ _ _ _ [some (.ref 0), some (.int v1), some (.int v2), some (.long (v3 + 0)), none, some (.int v5), some (.int r3)] _
        refine G_iinc 1 dX8_findCount_109 (by decide) rfl (ltb rfl) ?_
        change GG _ _ _ _ _ _ _ _ _ _ [some (.ref 0), some (.int v1), some (.int v2), some (.long (v3 + 0)), none, some (.int (v5 + 1)), some (.int r3)] _
        refine G_goto 62 dX8_findCount_112 (by decide) ?_
        refine GG.sb (lv2 := [some (.ref 0), some (.int v1), some (.int v2), some (.long (v3 + 0)), none, some (.int (v5 + 1)), none]) ?_ (lvS_v rfl (lvS_v rfl (lvS_v rfl (lvS_v rfl (lvS_n (lvS_v rfl (lvS_n (lvS_e))))))))
        exact ih hf
def f_X8_findCount_49 (N : Nat) (c_askers : Int32) (c_places : Int32) (c_seats : Nat → Int32) (c_wish : Nat → Int32) (k43 : Int32 → (Nat → Int64) → (Nat → Int32) → Int32 → Option (Int32 × (Nat → Int64) × (Nat → Int32))) : Nat → Int32 → (Nat → Int64) → (Nat → Int32) → Int32 → Int32 → Option (Int32 × (Nat → Int64) × (Nat → Int32))
  | 0, _, _, _, _, _ => none
  | n + 1, c_full, c_count, c_weight, v1, v2 =>
    (if c_full < v2 then
      k43 c_full c_count c_weight (v1 + (-1))
    else
      f_X8_findCount_62 N c_askers c_places c_seats c_wish (f_X8_findCount_49 N c_askers c_places c_seats c_wish k43 n) N c_full c_count c_weight v1 v2 0 0)
set_option maxHeartbeats 4000000 in
set_option maxRecDepth 100000 in
theorem g_X8_findCount_49 {κ : KC} {ω : KW} {A : Nat → Prop} {ad : Nat → Nat} {u_above : Int64} {u_below : Int64} {u_firsts : Int32} {u_freed : Int32} {u_whole : Int64} {N : Nat} {c_askers : Int32} {c_places : Int32} {c_seats : Nat → Int32} {c_wish : Nat → Int32}  {k43 : Int32 → (Nat → Int64) → (Nat → Int32) → Int32 → Option (Int32 × (Nat → Int64) × (Nat → Int32))} {res : Int32 × (Nat → Int64) × (Nat → Int32)} (hk43 : ∀ {c_full : Int32} {c_count : Nat → Int64} {c_weight : Nat → Int32} {v1 : Int32}, k43 c_full c_count c_weight v1 = some res → GG mu_X8_findCount κ ω A (QR κ ω A ad (none) (w_X8_findCount c_askers c_places res.1 res.2.1 c_seats res.2.2 c_wish u_above u_below u_firsts u_freed u_whole)) ad 0 0 43 (w_X8_findCount c_askers c_places c_full c_count c_seats c_weight c_wish u_above u_below u_firsts u_freed u_whole) [some (.ref 0), some (.int v1), none, none, none, none, none] []) : ∀ (n : Nat) {c_full : Int32} {c_count : Nat → Int64} {c_weight : Nat → Int32} {v1 : Int32} {v2 : Int32}, f_X8_findCount_49 N c_askers c_places c_seats c_wish k43 n c_full c_count c_weight v1 v2 = some res → GG mu_X8_findCount κ ω A (QR κ ω A ad (none) (w_X8_findCount c_askers c_places res.1 res.2.1 c_seats res.2.2 c_wish u_above u_below u_firsts u_freed u_whole)) ad 0 0 49 (w_X8_findCount c_askers c_places c_full c_count c_seats c_weight c_wish u_above u_below u_firsts u_freed u_whole) [some (.ref 0), some (.int v1), some (.int v2), none, none, none, none] [] := by
  intro n
  induction n with
  | zero => intro c_full c_count c_weight v1 v2 hf; exact ob_0 hf
  | succ n ih =>
    intro c_full c_count c_weight v1 v2 hf
    refine G_iload_n dX8_findCount_49 rfl rfl ?_
    refine G_aload_n dX8_findCount_50 rfl rfl ?_
    refine G_get (v := .int c_full) F_X8_114 dX8_findCount_51 rfl rfl ?_
    refine G_icmp_gt 134 dX8_findCount_54 (by decide) (fun h1 => ?_) (fun h1 => ?_)
    · replace hf := ob_t h1 hf
      refine G_iinc (-1) dX8_findCount_134 (by decide) rfl (ltb rfl) ?_
      change GG _ _ _ _ _ _ _ _ _ _ [some (.ref 0), some (.int (v1 + (-1))), some (.int v2), none, none, none, none] _
      refine G_goto 43 dX8_findCount_137 (by decide) ?_
      refine GG.sb (lv2 := [some (.ref 0), some (.int (v1 + (-1))), none, none, none, none, none]) ?_ (lvS_v rfl (lvS_v rfl (lvS_n (lvS_n (lvS_n (lvS_n (lvS_n (lvS_e))))))))
      exact hk43 hf
    · replace hf := ob_f h1 hf
      refine G_lconst 0 dX8_findCount_57 (by decide) ?_
      refine G_lstore_n dX8_findCount_58 rfl (ltb rfl) ?_
      change GG _ _ _ _ _ _ _ _ _ _ [some (.ref 0), some (.int v1), some (.int v2), some (.long 0), none, none, none] _
      refine G_iconst 0 dX8_findCount_59 (by decide) ?_
      refine G_istore dX8_findCount_60 (ltb rfl) ?_
      change GG _ _ _ _ _ _ _ _ _ _ [some (.ref 0), some (.int v1), some (.int v2), some (.long 0), none, some (.int 0), none] _
      exact g_X8_findCount_62 ih N hf
def f_X8_findCount_43 (N : Nat) (c_askers : Int32) (c_places : Int32) (c_seats : Nat → Int32) (c_wish : Nat → Int32) : Nat → Int32 → (Nat → Int64) → (Nat → Int32) → Int32 → Option (Int32 × (Nat → Int64) × (Nat → Int32))
  | 0, _, _, _, _ => none
  | n + 1, c_full, c_count, c_weight, v1 =>
    (if v1 < 0 then
      some (c_full, c_count, c_weight)
    else
      f_X8_findCount_49 N c_askers c_places c_seats c_wish (f_X8_findCount_43 N c_askers c_places c_seats c_wish n) N c_full c_count c_weight v1 0)
set_option maxHeartbeats 4000000 in
set_option maxRecDepth 100000 in
theorem g_X8_findCount_43 {κ : KC} {ω : KW} {A : Nat → Prop} {ad : Nat → Nat} {u_above : Int64} {u_below : Int64} {u_firsts : Int32} {u_freed : Int32} {u_whole : Int64} {N : Nat} {c_askers : Int32} {c_places : Int32} {c_seats : Nat → Int32} {c_wish : Nat → Int32}  {res : Int32 × (Nat → Int64) × (Nat → Int32)} : ∀ (n : Nat) {c_full : Int32} {c_count : Nat → Int64} {c_weight : Nat → Int32} {v1 : Int32}, f_X8_findCount_43 N c_askers c_places c_seats c_wish n c_full c_count c_weight v1 = some res → GG mu_X8_findCount κ ω A (QR κ ω A ad (none) (w_X8_findCount c_askers c_places res.1 res.2.1 c_seats res.2.2 c_wish u_above u_below u_firsts u_freed u_whole)) ad 0 0 43 (w_X8_findCount c_askers c_places c_full c_count c_seats c_weight c_wish u_above u_below u_firsts u_freed u_whole) [some (.ref 0), some (.int v1), none, none, none, none, none] [] := by
  intro n
  induction n with
  | zero => intro c_full c_count c_weight v1 hf; exact ob_0 hf
  | succ n ih =>
    intro c_full c_count c_weight v1 hf
    refine G_iload_n dX8_findCount_43 rfl rfl ?_
    refine G_if_lt 140 dX8_findCount_44 (by decide) (fun h1 => ?_) (fun h1 => ?_)
    · replace hf := ob_t h1 hf
      obtain rfl := os hf
      exact G_return dX8_findCount_140 rfl
    · replace hf := ob_f h1 hf
      refine G_iconst 0 dX8_findCount_47 (by decide) ?_
      refine G_istore_n dX8_findCount_48 rfl (ltb rfl) ?_
      change GG _ _ _ _ _ _ _ _ _ _ [some (.ref 0), some (.int v1), some (.int 0), none, none, none, none] _
      exact g_X8_findCount_49 ih N hf
def f_X8_findCount_6 (N : Nat) (c_askers : Int32) (c_places : Int32) (c_seats : Nat → Int32) (c_wish : Nat → Int32) : Nat → Int32 → (Nat → Int64) → (Nat → Int32) → Int32 → Option (Int32 × (Nat → Int64) × (Nat → Int32))
  | 0, _, _, _, _ => none
  | n + 1, c_full, c_count, c_weight, v1 =>
    (if c_full < v1 then
      f_X8_findCount_43 N c_askers c_places c_seats c_wish N c_full c_count c_weight (c_askers - 1)
    else
      (wrL 36864 c_count ((4096 * c_askers) + v1) 1).bind fun t2 =>
      f_X8_findCount_6 N c_askers c_places c_seats c_wish n c_full t2 c_weight (v1 + 1))
set_option maxHeartbeats 4000000 in
set_option maxRecDepth 100000 in
theorem g_X8_findCount_6 {κ : KC} {ω : KW} {A : Nat → Prop} {ad : Nat → Nat} {u_above : Int64} {u_below : Int64} {u_firsts : Int32} {u_freed : Int32} {u_whole : Int64} {N : Nat} {c_askers : Int32} {c_places : Int32} {c_seats : Nat → Int32} {c_wish : Nat → Int32}  {res : Int32 × (Nat → Int64) × (Nat → Int32)} : ∀ (n : Nat) {c_full : Int32} {c_count : Nat → Int64} {c_weight : Nat → Int32} {v1 : Int32}, f_X8_findCount_6 N c_askers c_places c_seats c_wish n c_full c_count c_weight v1 = some res → GG mu_X8_findCount κ ω A (QR κ ω A ad (none) (w_X8_findCount c_askers c_places res.1 res.2.1 c_seats res.2.2 c_wish u_above u_below u_firsts u_freed u_whole)) ad 0 0 6 (w_X8_findCount c_askers c_places c_full c_count c_seats c_weight c_wish u_above u_below u_firsts u_freed u_whole) [some (.ref 0), some (.int v1), none, none, none, none, none] [] := by
  intro n
  induction n with
  | zero => intro c_full c_count c_weight v1 hf; exact ob_0 hf
  | succ n ih =>
    intro c_full c_count c_weight v1 hf
    refine G_iload_n dX8_findCount_6 rfl rfl ?_
    refine G_aload_n dX8_findCount_7 rfl rfl ?_
    refine G_get (v := .int c_full) F_X8_114 dX8_findCount_8 rfl rfl ?_
    refine G_icmp_gt 36 dX8_findCount_11 (by decide) (fun h1 => ?_) (fun h1 => ?_)
    · replace hf := ob_t h1 hf
      refine G_aload_n dX8_findCount_36 rfl rfl ?_
      refine G_get (v := .int c_askers) F_X8_89 dX8_findCount_37 rfl rfl ?_
      refine G_iconst 1 dX8_findCount_40 (by decide) ?_
      refine G_isub dX8_findCount_41 ?_
      refine G_istore_n dX8_findCount_42 rfl (ltb rfl) ?_
      change GG _ _ _ _ _ _ _ _ _ _ [some (.ref 0), some (.int (c_askers - 1)), none, none, none, none, none] _
      exact g_X8_findCount_43 N hf
    · replace hf := ob_f h1 hf
      refine G_aload_n dX8_findCount_14 rfl rfl ?_
      refine G_get (v := .ref 1) F_X8_23 dX8_findCount_15 rfl rfl ?_
      refine G_sipush 4096 dX8_findCount_18 (by decide) ?_
      refine G_aload_n dX8_findCount_21 rfl rfl ?_
      refine G_get (v := .int c_askers) F_X8_89 dX8_findCount_22 rfl rfl ?_
      refine G_imul dX8_findCount_25 ?_
      refine G_iload_n dX8_findCount_26 rfl rfl ?_
      refine G_iadd dX8_findCount_27 ?_
      refine G_lconst 1 dX8_findCount_28 (by decide) ?_
      obtain ⟨t2, ht2, hf⟩ := ob hf
      refine G_last (w2 := (w_X8_findCount c_askers c_places c_full t2 c_seats c_weight c_wish u_above u_below u_firsts u_freed u_whole)) dX8_findCount_29 rfl ht2 rfl ?_
      refine G_iinc 1 dX8_findCount_30 (by decide) rfl (ltb rfl) ?_
      change GG _ _ _ _ _ _ _ _ _ _ [some (.ref 0), some (.int (v1 + 1)), none, none, none, none, none] _
      refine G_goto 6 dX8_findCount_33 (by decide) ?_
      exact ih hf
def f_X8_findCount (N : Nat) (c_askers : Int32) (c_places : Int32) (c_seats : Nat → Int32) (c_wish : Nat → Int32) (c_full : Int32) (c_count : Nat → Int64) (c_weight : Nat → Int32)  : Option (Int32 × (Nat → Int64) × (Nat → Int32)) :=
  (f_X8_findWeights N c_places c_seats c_full c_weight).bind fun (o1, o2) =>
  f_X8_findCount_6 N c_askers c_places c_seats c_wish N o1 c_count o2 0
set_option maxHeartbeats 4000000 in
set_option maxRecDepth 100000 in
theorem c_X8_findCount {N : Nat} {c_askers : Int32} {c_places : Int32} {c_seats : Nat → Int32} {c_wish : Nat → Int32} {c_full : Int32} {c_count : Nat → Int64} {c_weight : Nat → Int32} {u_above : Int64} {u_below : Int64} {u_firsts : Int32} {u_freed : Int32} {u_whole : Int64}  {res : Int32 × (Nat → Int64) × (Nat → Int32)} (hf : f_X8_findCount N c_askers c_places c_seats c_wish c_full c_count c_weight = some res) : Con mu_X8_findCount [.ref 0] (w_X8_findCount c_askers c_places c_full c_count c_seats c_weight c_wish u_above u_below u_firsts u_freed u_whole) (none) (w_X8_findCount c_askers c_places res.1 res.2.1 c_seats res.2.2 c_wish u_above u_below u_firsts u_freed u_whole) := by
  refine Con.mk (show plainName RX8 = true by decide +kernel) (leb rfl) (fun κ ω A ad => ?_)
  change GG mu_X8_findCount κ ω A (QR κ ω A ad (none) (w_X8_findCount c_askers c_places res.1 res.2.1 c_seats res.2.2 c_wish u_above u_below u_firsts u_freed u_whole)) ad 0 0 0 (w_X8_findCount c_askers c_places c_full c_count c_seats c_weight c_wish u_above u_below u_firsts u_freed u_whole) [some (.ref 0), none, none, none, none, none, none] []
  refine G_aload_n dX8_findCount_0 rfl rfl ?_
  obtain ⟨⟨o1, o2⟩, hc3, hf⟩ := ob hf
  refine G_callV (μ2 := mu_X8_findWeights) (As := []) (w2 := (w_X8_findCount c_askers c_places o1 c_count c_seats o2 c_wish u_above u_below u_firsts u_freed u_whole)) (wc := (w_X8_findWeights c_places c_full c_seats c_weight c_askers u_above u_below u_firsts u_freed u_whole)) (wc2 := (w_X8_findWeights c_places o1 c_seats o2 c_askers u_above u_below u_firsts u_freed u_whole)) (rest := []) (rv := []) [0, 2, 3] [4, 1000, 1, 1001, 1002, 1003, 1004, 1005, 1006, 1007, 1008, 1009, 1010, 1011, 1012, 1013, 1014, 1015, 1016] [1, 4] [2, 0, 3, 4, 1] (c_X8_findWeights hc3) cw_X8_findWeights m_X8_117 dX8_findCount_1 rfl ⟨leb rfl, leb rfl⟩ ⟨rfl, rfl⟩ rfl ⟨_, rfl, rfl⟩ (Fit.mk rfl rfl rfl) rfl (leb rfl) (ROsub.nil rfl rfl) rfl ?_
  change GG _ _ _ _ _ _ _ _ _ (w_X8_findCount c_askers c_places o1 c_count c_seats o2 c_wish u_above u_below u_firsts u_freed u_whole) [some (.ref 0), none, none, none, none, none, none] []
  refine G_iconst 0 dX8_findCount_4 (by decide) ?_
  refine G_istore_n dX8_findCount_5 rfl (ltb rfl) ?_
  change GG _ _ _ _ _ _ _ _ _ _ [some (.ref 0), some (.int 0), none, none, none, none, none] _
  exact g_X8_findCount_6 N hf
set_option maxRecDepth 20000 in
theorem dX8_givings_0 : decode cX8_givings 0 = .ok (.aload_n 0, 1) := by decide +kernel
set_option maxRecDepth 20000 in
theorem dX8_givings_1 : decode cX8_givings 1 = .ok (.invokevirtual 124, 3) := by decide +kernel
set_option maxRecDepth 20000 in
theorem dX8_givings_4 : decode cX8_givings 4 = .ok (.aload_n 0, 1) := by decide +kernel
set_option maxRecDepth 20000 in
theorem dX8_givings_5 : decode cX8_givings 5 = .ok (.getfield 23, 3) := by decide +kernel
set_option maxRecDepth 20000 in
theorem dX8_givings_8 : decode cX8_givings 8 = .ok (.aload_n 0, 1) := by decide +kernel
set_option maxRecDepth 20000 in
theorem dX8_givings_9 : decode cX8_givings 9 = .ok (.getfield 114, 3) := by decide +kernel
set_option maxRecDepth 20000 in
theorem dX8_givings_12 : decode cX8_givings 12 = .ok (.laload, 1) := by decide +kernel
set_option maxRecDepth 20000 in
theorem dX8_givings_13 : decode cX8_givings 13 = .ok (.lreturn, 1) := by decide +kernel
def f_X8_givings (N : Nat) (c_askers : Int32) (c_places : Int32) (c_seats : Nat → Int32) (c_wish : Nat → Int32) (c_full : Int32) (c_count : Nat → Int64) (c_weight : Nat → Int32)  : Option (Int64 × Int32 × (Nat → Int64) × (Nat → Int32)) :=
  (f_X8_findCount N c_askers c_places c_seats c_wish c_full c_count c_weight).bind fun (o1, o2, o3) =>
  (rdL 36864 o2 o1).bind fun t5 =>
  some (t5, o1, o2, o3)
set_option maxHeartbeats 4000000 in
set_option maxRecDepth 100000 in
theorem c_X8_givings {N : Nat} {c_askers : Int32} {c_places : Int32} {c_seats : Nat → Int32} {c_wish : Nat → Int32} {c_full : Int32} {c_count : Nat → Int64} {c_weight : Nat → Int32} {u_above : Int64} {u_below : Int64} {u_firsts : Int32} {u_freed : Int32} {u_whole : Int64}  {res : Int64 × Int32 × (Nat → Int64) × (Nat → Int32)} (hf : f_X8_givings N c_askers c_places c_seats c_wish c_full c_count c_weight = some res) : Con mu_X8_givings [.ref 0] (w_X8_givings c_askers c_places c_full c_count c_seats c_weight c_wish u_above u_below u_firsts u_freed u_whole) (some (.long res.1)) (w_X8_givings c_askers c_places res.2.1 res.2.2.1 c_seats res.2.2.2 c_wish u_above u_below u_firsts u_freed u_whole) := by
  refine Con.mk (show plainName RX8 = true by decide +kernel) (leb rfl) (fun κ ω A ad => ?_)
  change GG mu_X8_givings κ ω A (QR κ ω A ad (some (.long res.1)) (w_X8_givings c_askers c_places res.2.1 res.2.2.1 c_seats res.2.2.2 c_wish u_above u_below u_firsts u_freed u_whole)) ad 0 0 0 (w_X8_givings c_askers c_places c_full c_count c_seats c_weight c_wish u_above u_below u_firsts u_freed u_whole) [some (.ref 0)] []
  refine G_aload_n dX8_givings_0 rfl rfl ?_
  obtain ⟨⟨o1, o2, o3⟩, hc4, hf⟩ := ob hf
  refine G_callV (μ2 := mu_X8_findCount) (As := []) (w2 := (w_X8_givings c_askers c_places o1 o2 c_seats o3 c_wish u_above u_below u_firsts u_freed u_whole)) (wc := (w_X8_findCount c_askers c_places c_full c_count c_seats c_weight c_wish u_above u_below u_firsts u_freed u_whole)) (wc2 := (w_X8_findCount c_askers c_places o1 o2 c_seats o3 c_wish u_above u_below u_firsts u_freed u_whole)) (rest := []) (rv := []) [0, 1, 2, 3, 4] [1000, 1001, 1002, 1003, 1004, 1005, 1006, 1007, 1008, 1009, 1010, 1011, 1012, 1013, 1014, 1015, 1016] [] [0, 1, 2, 3, 4] (c_X8_findCount hc4) cw_X8_findCount m_X8_124 dX8_givings_1 rfl ⟨leb rfl, leb rfl⟩ ⟨rfl, rfl⟩ rfl ⟨_, rfl, rfl⟩ (Fit.mk rfl rfl rfl) rfl (leb rfl) (ROsub.nil rfl rfl) rfl ?_
  change GG _ _ _ _ _ _ _ _ _ (w_X8_givings c_askers c_places o1 o2 c_seats o3 c_wish u_above u_below u_firsts u_freed u_whole) [some (.ref 0)] []
  refine G_aload_n dX8_givings_4 rfl rfl ?_
  refine G_get (v := .ref 1) F_X8_23 dX8_givings_5 rfl rfl ?_
  refine G_aload_n dX8_givings_8 rfl rfl ?_
  refine G_get (v := .int o1) F_X8_114 dX8_givings_9 rfl rfl ?_
  obtain ⟨t5, ht5, hf⟩ := ob hf
  refine G_lald dX8_givings_12 rfl ht5 ?_
  obtain rfl := os hf
  exact G_lreturn dX8_givings_13 rfl
set_option maxRecDepth 20000 in
theorem dX8_givingAt_0 : decode cX8_givingAt 0 = .ok (.aload_n 0, 1) := by decide +kernel
set_option maxRecDepth 20000 in
theorem dX8_givingAt_1 : decode cX8_givingAt 1 = .ok (.invokevirtual 124, 3) := by decide +kernel
set_option maxRecDepth 20000 in
theorem dX8_givingAt_4 : decode cX8_givingAt 4 = .ok (.aload_n 0, 1) := by decide +kernel
set_option maxRecDepth 20000 in
theorem dX8_givingAt_5 : decode cX8_givingAt 5 = .ok (.iload_n 3, 1) := by decide +kernel
set_option maxRecDepth 20000 in
theorem dX8_givingAt_6 : decode cX8_givingAt 6 = .ok (.invokevirtual 108, 3) := by decide +kernel
set_option maxRecDepth 20000 in
theorem dX8_givingAt_9 : decode cX8_givingAt 9 = .ok (.ifCond .eq 23, 3) := by decide +kernel
set_option maxRecDepth 20000 in
theorem dX8_givingAt_12 : decode cX8_givingAt 12 = .ok (.lload_n 1, 1) := by decide +kernel
set_option maxRecDepth 20000 in
theorem dX8_givingAt_13 : decode cX8_givingAt 13 = .ok (.lconst 0, 1) := by decide +kernel
set_option maxRecDepth 20000 in
theorem dX8_givingAt_14 : decode cX8_givingAt 14 = .ok (.lcmp, 1) := by decide +kernel
set_option maxRecDepth 20000 in
theorem dX8_givingAt_15 : decode cX8_givingAt 15 = .ok (.ifCond .lt 17, 3) := by decide +kernel
set_option maxRecDepth 20000 in
theorem dX8_givingAt_18 : decode cX8_givingAt 18 = .ok (.lload_n 1, 1) := by decide +kernel
set_option maxRecDepth 20000 in
theorem dX8_givingAt_19 : decode cX8_givingAt 19 = .ok (.aload_n 0, 1) := by decide +kernel
set_option maxRecDepth 20000 in
theorem dX8_givingAt_20 : decode cX8_givingAt 20 = .ok (.getfield 23, 3) := by decide +kernel
set_option maxRecDepth 20000 in
theorem dX8_givingAt_23 : decode cX8_givingAt 23 = .ok (.aload_n 0, 1) := by decide +kernel
set_option maxRecDepth 20000 in
theorem dX8_givingAt_24 : decode cX8_givingAt 24 = .ok (.getfield 114, 3) := by decide +kernel
set_option maxRecDepth 20000 in
theorem dX8_givingAt_27 : decode cX8_givingAt 27 = .ok (.laload, 1) := by decide +kernel
set_option maxRecDepth 20000 in
theorem dX8_givingAt_28 : decode cX8_givingAt 28 = .ok (.lcmp, 1) := by decide +kernel
set_option maxRecDepth 20000 in
theorem dX8_givingAt_29 : decode cX8_givingAt 29 = .ok (.ifCond .lt 6, 3) := by decide +kernel
set_option maxRecDepth 20000 in
theorem dX8_givingAt_32 : decode cX8_givingAt 32 = .ok (.bipush (-2), 2) := by decide +kernel
set_option maxRecDepth 20000 in
theorem dX8_givingAt_34 : decode cX8_givingAt 34 = .ok (.ireturn, 1) := by decide +kernel
set_option maxRecDepth 20000 in
theorem dX8_givingAt_35 : decode cX8_givingAt 35 = .ok (.lload_n 1, 1) := by decide +kernel
set_option maxRecDepth 20000 in
theorem dX8_givingAt_36 : decode cX8_givingAt 36 = .ok (.lstore 4, 2) := by decide +kernel
set_option maxRecDepth 20000 in
theorem dX8_givingAt_38 : decode cX8_givingAt 38 = .ok (.aload_n 0, 1) := by decide +kernel
set_option maxRecDepth 20000 in
theorem dX8_givingAt_39 : decode cX8_givingAt 39 = .ok (.getfield 114, 3) := by decide +kernel
set_option maxRecDepth 20000 in
theorem dX8_givingAt_42 : decode cX8_givingAt 42 = .ok (.istore 6, 2) := by decide +kernel
set_option maxRecDepth 20000 in
theorem dX8_givingAt_44 : decode cX8_givingAt 44 = .ok (.iconst 0, 1) := by decide +kernel
set_option maxRecDepth 20000 in
theorem dX8_givingAt_45 : decode cX8_givingAt 45 = .ok (.istore 7, 2) := by decide +kernel
set_option maxRecDepth 20000 in
theorem dX8_givingAt_47 : decode cX8_givingAt 47 = .ok (.iload 7, 2) := by decide +kernel
set_option maxRecDepth 20000 in
theorem dX8_givingAt_49 : decode cX8_givingAt 49 = .ok (.iload_n 3, 1) := by decide +kernel
set_option maxRecDepth 20000 in
theorem dX8_givingAt_50 : decode cX8_givingAt 50 = .ok (.if_icmp .gt 106, 3) := by decide +kernel
set_option maxRecDepth 20000 in
theorem dX8_givingAt_53 : decode cX8_givingAt 53 = .ok (.iconst 0, 1) := by decide +kernel
set_option maxRecDepth 20000 in
theorem dX8_givingAt_54 : decode cX8_givingAt 54 = .ok (.istore 8, 2) := by decide +kernel
set_option maxRecDepth 20000 in
theorem dX8_givingAt_56 : decode cX8_givingAt 56 = .ok (.iload 6, 2) := by decide +kernel
set_option maxRecDepth 20000 in
theorem dX8_givingAt_58 : decode cX8_givingAt 58 = .ok (.istore 9, 2) := by decide +kernel
set_option maxRecDepth 20000 in
theorem dX8_givingAt_60 : decode cX8_givingAt 60 = .ok (.iload 9, 2) := by decide +kernel
set_option maxRecDepth 20000 in
theorem dX8_givingAt_62 : decode cX8_givingAt 62 = .ok (.iconst (-1), 1) := by decide +kernel
set_option maxRecDepth 20000 in
theorem dX8_givingAt_63 : decode cX8_givingAt 63 = .ok (.if_icmp .eq 25, 3) := by decide +kernel
set_option maxRecDepth 20000 in
theorem dX8_givingAt_66 : decode cX8_givingAt 66 = .ok (.lload 4, 2) := by decide +kernel
set_option maxRecDepth 20000 in
theorem dX8_givingAt_68 : decode cX8_givingAt 68 = .ok (.aload_n 0, 1) := by decide +kernel
set_option maxRecDepth 20000 in
theorem dX8_givingAt_69 : decode cX8_givingAt 69 = .ok (.getfield 23, 3) := by decide +kernel
set_option maxRecDepth 20000 in
theorem dX8_givingAt_72 : decode cX8_givingAt 72 = .ok (.sipush 4096, 3) := by decide +kernel
set_option maxRecDepth 20000 in
theorem dX8_givingAt_75 : decode cX8_givingAt 75 = .ok (.iload 7, 2) := by decide +kernel
set_option maxRecDepth 20000 in
theorem dX8_givingAt_77 : decode cX8_givingAt 77 = .ok (.iconst 1, 1) := by decide +kernel
set_option maxRecDepth 20000 in
theorem dX8_givingAt_78 : decode cX8_givingAt 78 = .ok (.iadd, 1) := by decide +kernel
set_option maxRecDepth 20000 in
theorem dX8_givingAt_79 : decode cX8_givingAt 79 = .ok (.imul, 1) := by decide +kernel
set_option maxRecDepth 20000 in
theorem dX8_givingAt_80 : decode cX8_givingAt 80 = .ok (.iload 9, 2) := by decide +kernel
set_option maxRecDepth 20000 in
theorem dX8_givingAt_82 : decode cX8_givingAt 82 = .ok (.iadd, 1) := by decide +kernel
set_option maxRecDepth 20000 in
theorem dX8_givingAt_83 : decode cX8_givingAt 83 = .ok (.laload, 1) := by decide +kernel
set_option maxRecDepth 20000 in
theorem dX8_givingAt_84 : decode cX8_givingAt 84 = .ok (.lcmp, 1) := by decide +kernel
set_option maxRecDepth 20000 in
theorem dX8_givingAt_85 : decode cX8_givingAt 85 = .ok (.ifCond .lt 52, 3) := by decide +kernel
set_option maxRecDepth 20000 in
theorem dX8_givingAt_88 : decode cX8_givingAt 88 = .ok (.lload 4, 2) := by decide +kernel
set_option maxRecDepth 20000 in
theorem dX8_givingAt_90 : decode cX8_givingAt 90 = .ok (.iload 9, 2) := by decide +kernel
set_option maxRecDepth 20000 in
theorem dX8_givingAt_92 : decode cX8_givingAt 92 = .ok (.iconst (-1), 1) := by decide +kernel
set_option maxRecDepth 20000 in
theorem dX8_givingAt_93 : decode cX8_givingAt 93 = .ok (.if_icmp .ne 7, 3) := by decide +kernel
set_option maxRecDepth 20000 in
theorem dX8_givingAt_96 : decode cX8_givingAt 96 = .ok (.lconst 0, 1) := by decide +kernel
set_option maxRecDepth 20000 in
theorem dX8_givingAt_97 : decode cX8_givingAt 97 = .ok (.goto 19, 3) := by decide +kernel
set_option maxRecDepth 20000 in
theorem dX8_givingAt_100 : decode cX8_givingAt 100 = .ok (.aload_n 0, 1) := by decide +kernel
set_option maxRecDepth 20000 in
theorem dX8_givingAt_101 : decode cX8_givingAt 101 = .ok (.getfield 23, 3) := by decide +kernel
set_option maxRecDepth 20000 in
theorem dX8_givingAt_104 : decode cX8_givingAt 104 = .ok (.sipush 4096, 3) := by decide +kernel
set_option maxRecDepth 20000 in
theorem dX8_givingAt_107 : decode cX8_givingAt 107 = .ok (.iload 7, 2) := by decide +kernel
set_option maxRecDepth 20000 in
theorem dX8_givingAt_109 : decode cX8_givingAt 109 = .ok (.iconst 1, 1) := by decide +kernel
set_option maxRecDepth 20000 in
theorem dX8_givingAt_110 : decode cX8_givingAt 110 = .ok (.iadd, 1) := by decide +kernel
set_option maxRecDepth 20000 in
theorem dX8_givingAt_111 : decode cX8_givingAt 111 = .ok (.imul, 1) := by decide +kernel
set_option maxRecDepth 20000 in
theorem dX8_givingAt_112 : decode cX8_givingAt 112 = .ok (.iload 9, 2) := by decide +kernel
set_option maxRecDepth 20000 in
theorem dX8_givingAt_114 : decode cX8_givingAt 114 = .ok (.iadd, 1) := by decide +kernel
set_option maxRecDepth 20000 in
theorem dX8_givingAt_115 : decode cX8_givingAt 115 = .ok (.laload, 1) := by decide +kernel
set_option maxRecDepth 20000 in
theorem dX8_givingAt_116 : decode cX8_givingAt 116 = .ok (.lsub, 1) := by decide +kernel
set_option maxRecDepth 20000 in
theorem dX8_givingAt_117 : decode cX8_givingAt 117 = .ok (.lstore 4, 2) := by decide +kernel
set_option maxRecDepth 20000 in
theorem dX8_givingAt_119 : decode cX8_givingAt 119 = .ok (.iinc 8 1, 3) := by decide +kernel
set_option maxRecDepth 20000 in
theorem dX8_givingAt_122 : decode cX8_givingAt 122 = .ok (.aload_n 0, 1) := by decide +kernel
set_option maxRecDepth 20000 in
theorem dX8_givingAt_123 : decode cX8_givingAt 123 = .ok (.iload 7, 2) := by decide +kernel
set_option maxRecDepth 20000 in
theorem dX8_givingAt_125 : decode cX8_givingAt 125 = .ok (.iload 8, 2) := by decide +kernel
set_option maxRecDepth 20000 in
theorem dX8_givingAt_127 : decode cX8_givingAt 127 = .ok (.iload 6, 2) := by decide +kernel
set_option maxRecDepth 20000 in
theorem dX8_givingAt_129 : decode cX8_givingAt 129 = .ok (.invokevirtual 120, 3) := by decide +kernel
set_option maxRecDepth 20000 in
theorem dX8_givingAt_132 : decode cX8_givingAt 132 = .ok (.istore 9, 2) := by decide +kernel
set_option maxRecDepth 20000 in
theorem dX8_givingAt_134 : decode cX8_givingAt 134 = .ok (.goto (-74), 3) := by decide +kernel
set_option maxRecDepth 20000 in
theorem dX8_givingAt_137 : decode cX8_givingAt 137 = .ok (.aload_n 0, 1) := by decide +kernel
set_option maxRecDepth 20000 in
theorem dX8_givingAt_138 : decode cX8_givingAt 138 = .ok (.getfield 27, 3) := by decide +kernel
set_option maxRecDepth 20000 in
theorem dX8_givingAt_141 : decode cX8_givingAt 141 = .ok (.iload 7, 2) := by decide +kernel
set_option maxRecDepth 20000 in
theorem dX8_givingAt_143 : decode cX8_givingAt 143 = .ok (.iload 8, 2) := by decide +kernel
set_option maxRecDepth 20000 in
theorem dX8_givingAt_145 : decode cX8_givingAt 145 = .ok (.iastore, 1) := by decide +kernel
set_option maxRecDepth 20000 in
theorem dX8_givingAt_146 : decode cX8_givingAt 146 = .ok (.iload 9, 2) := by decide +kernel
set_option maxRecDepth 20000 in
theorem dX8_givingAt_148 : decode cX8_givingAt 148 = .ok (.istore 6, 2) := by decide +kernel
set_option maxRecDepth 20000 in
theorem dX8_givingAt_150 : decode cX8_givingAt 150 = .ok (.iinc 7 1, 3) := by decide +kernel
set_option maxRecDepth 20000 in
theorem dX8_givingAt_153 : decode cX8_givingAt 153 = .ok (.goto (-106), 3) := by decide +kernel
set_option maxRecDepth 20000 in
theorem dX8_givingAt_156 : decode cX8_givingAt 156 = .ok (.aload_n 0, 1) := by decide +kernel
set_option maxRecDepth 20000 in
theorem dX8_givingAt_157 : decode cX8_givingAt 157 = .ok (.getfield 27, 3) := by decide +kernel
set_option maxRecDepth 20000 in
theorem dX8_givingAt_160 : decode cX8_givingAt 160 = .ok (.iload_n 3, 1) := by decide +kernel
set_option maxRecDepth 20000 in
theorem dX8_givingAt_161 : decode cX8_givingAt 161 = .ok (.iaload, 1) := by decide +kernel
set_option maxRecDepth 20000 in
theorem dX8_givingAt_162 : decode cX8_givingAt 162 = .ok (.iconst 1, 1) := by decide +kernel
set_option maxRecDepth 20000 in
theorem dX8_givingAt_163 : decode cX8_givingAt 163 = .ok (.isub, 1) := by decide +kernel
set_option maxRecDepth 20000 in
theorem dX8_givingAt_164 : decode cX8_givingAt 164 = .ok (.ireturn, 1) := by decide +kernel
def f_X8_givingAt_116 (N : Nat) (c_askers : Int32) (c_places : Int32) (c_seats : Nat → Int32) (c_wish : Nat → Int32) (k60 : Int32 → (Nat → Int64) → (Nat → Int32) → (Nat → Int32) → Int32 → Int64 → Int32 → Int32 → Int32 → Int32 → Option (Int32 × Int32 × (Nat → Int64) × (Nat → Int32) × (Nat → Int32))) (c_full : Int32) (c_count : Nat → Int64) (c_found : Nat → Int32) (c_weight : Nat → Int32) (v3 : Int32) (v6 : Int32) (v7 : Int32) (v8 : Int32) (s0 : Int64) (s1 : Int64) : Option (Int32 × Int32 × (Nat → Int64) × (Nat → Int32) × (Nat → Int32)) :=
    (f_X8_takes N c_places c_seats c_weight c_wish v7 (v8 + 1) v6).bind fun r1 =>
    k60 c_full c_count c_found c_weight v3 (s0 - s1) v6 v7 (v8 + 1) r1
set_option maxHeartbeats 4000000 in
set_option maxRecDepth 100000 in
theorem g_X8_givingAt_116 {κ : KC} {ω : KW} {A : Nat → Prop} {ad : Nat → Nat} {u_above : Int64} {u_below : Int64} {u_firsts : Int32} {u_freed : Int32} {u_whole : Int64} {N : Nat} {c_askers : Int32} {c_places : Int32} {c_seats : Nat → Int32} {c_wish : Nat → Int32}  {k60 : Int32 → (Nat → Int64) → (Nat → Int32) → (Nat → Int32) → Int32 → Int64 → Int32 → Int32 → Int32 → Int32 → Option (Int32 × Int32 × (Nat → Int64) × (Nat → Int32) × (Nat → Int32))} {res : Int32 × Int32 × (Nat → Int64) × (Nat → Int32) × (Nat → Int32)} (hk60 : ∀ {c_full : Int32} {c_count : Nat → Int64} {c_found : Nat → Int32} {c_weight : Nat → Int32} {v3 : Int32} {v4 : Int64} {v6 : Int32} {v7 : Int32} {v8 : Int32} {v9 : Int32}, k60 c_full c_count c_found c_weight v3 v4 v6 v7 v8 v9 = some res → GG mu_X8_givingAt κ ω A (QR κ ω A ad (some (.int res.1)) (w_X8_givingAt c_askers c_places res.2.1 res.2.2.1 res.2.2.2.1 c_seats res.2.2.2.2 c_wish u_above u_below u_firsts u_freed u_whole)) ad 0 0 60 (w_X8_givingAt c_askers c_places c_full c_count c_found c_seats c_weight c_wish u_above u_below u_firsts u_freed u_whole) [some (.ref 0), none, none, some (.int v3), some (.long v4), none, some (.int v6), some (.int v7), some (.int v8), some (.int v9)] []) {c_full : Int32} {c_count : Nat → Int64} {c_found : Nat → Int32} {c_weight : Nat → Int32} {v3 : Int32} {v6 : Int32} {v7 : Int32} {v8 : Int32} {s0 : Int64} {s1 : Int64} (hf : f_X8_givingAt_116 N c_askers c_places c_seats c_wish k60 c_full c_count c_found c_weight v3 v6 v7 v8 s0 s1 = some res) : GG mu_X8_givingAt κ ω A (QR κ ω A ad (some (.int res.1)) (w_X8_givingAt c_askers c_places res.2.1 res.2.2.1 res.2.2.2.1 c_seats res.2.2.2.2 c_wish u_above u_below u_firsts u_freed u_whole)) ad 0 0 116 (w_X8_givingAt c_askers c_places c_full c_count c_found c_seats c_weight c_wish u_above u_below u_firsts u_freed u_whole) [some (.ref 0), none, none, some (.int v3), none, none, some (.int v6), some (.int v7), some (.int v8), none] [.long s1, .long s0] := by
  refine G_lsub dX8_givingAt_116 ?_
  refine G_lstore dX8_givingAt_117 (ltb rfl) ?_
  change GG _ _ _ _ _ _ _ _ _ _ [some (.ref 0), none, none, some (.int v3), some (.long (s0 - s1)), none, some (.int v6), some (.int v7), some (.int v8), none] _
  refine G_iinc 1 dX8_givingAt_119 (by decide) rfl (ltb rfl) ?_
  change GG _ _ _ _ _ _ _ _ _ _ [some (.ref 0), none, none, some (.int v3), some (.long (s0 - s1)), none, some (.int v6), some (.int v7), some (.int (v8 + 1)), none] _
  refine G_aload_n dX8_givingAt_122 rfl rfl ?_
  refine G_iload dX8_givingAt_123 rfl ?_
  refine G_iload dX8_givingAt_125 rfl ?_
  refine G_iload dX8_givingAt_127 rfl ?_
  obtain ⟨r1, hc2, hf⟩ := ob hf
  refine G_callV (μ2 := mu_X8_takes) (As := [.int v7, .int (v8 + 1), .int v6]) (w2 := (w_X8_givingAt c_askers c_places c_full c_count c_found c_seats c_weight c_wish u_above u_below u_firsts u_freed u_whole)) (wc := (w_X8_takes c_places c_seats c_weight c_wish c_askers u_above u_below c_full u_firsts u_freed u_whole)) (wc2 := (w_X8_takes c_places c_seats c_weight c_wish c_askers u_above u_below c_full u_firsts u_freed u_whole)) (rest := []) (rv := [.int r1]) [0, 3, 4, 5] [1000, 1, 2, 1001, 1002, 1003, 1004, 1005, 1006, 1007, 1008, 1009, 1010, 1011, 1012, 1013, 1014, 1015] [1, 2] [2, 0, 1, 3, 4, 5] (c_X8_takes hc2) cw_X8_takes m_X8_120 dX8_givingAt_129 rfl ⟨leb rfl, leb rfl⟩ ⟨rfl, rfl⟩ rfl ⟨_, rfl, rfl⟩ (Fit.mk rfl rfl rfl) rfl (leb rfl) (ROsub.nil rfl rfl) rfl ?_
  change GG _ _ _ _ _ _ _ _ _ (w_X8_givingAt c_askers c_places c_full c_count c_found c_seats c_weight c_wish u_above u_below u_firsts u_freed u_whole) [some (.ref 0), none, none, some (.int v3), some (.long (s0 - s1)), none, some (.int v6), some (.int v7), some (.int (v8 + 1)), none] [.int r1]
  refine G_istore dX8_givingAt_132 (ltb rfl) ?_
  change GG _ _ _ _ _ _ _ _ _ _ [some (.ref 0), none, none, some (.int v3), some (.long (s0 - s1)), none, some (.int v6), some (.int v7), some (.int (v8 + 1)), some (.int r1)] _
  refine G_goto 60 dX8_givingAt_134 (by decide) ?_
  exact hk60 hf
def f_X8_givingAt_88 (N : Nat) (c_askers : Int32) (c_places : Int32) (c_seats : Nat → Int32) (c_wish : Nat → Int32) (k60 : Int32 → (Nat → Int64) → (Nat → Int32) → (Nat → Int32) → Int32 → Int64 → Int32 → Int32 → Int32 → Int32 → Option (Int32 × Int32 × (Nat → Int64) × (Nat → Int32) × (Nat → Int32))) (c_full : Int32) (c_count : Nat → Int64) (c_found : Nat → Int32) (c_weight : Nat → Int32) (v3 : Int32) (v4 : Int64) (v6 : Int32) (v7 : Int32) (v8 : Int32) (v9 : Int32) : Option (Int32 × Int32 × (Nat → Int64) × (Nat → Int32) × (Nat → Int32)) :=
    (if v9 = (-1 : Int32) then
      f_X8_givingAt_116 N c_askers c_places c_seats c_wish k60 c_full c_count c_found c_weight v3 v6 v7 v8 v4 0
    else
      (rdL 36864 c_count ((4096 * (v7 + 1)) + v9)).bind fun t2 =>
      f_X8_givingAt_116 N c_askers c_places c_seats c_wish k60 c_full c_count c_found c_weight v3 v6 v7 v8 v4 t2)
set_option maxHeartbeats 4000000 in
set_option maxRecDepth 100000 in
theorem g_X8_givingAt_88 {κ : KC} {ω : KW} {A : Nat → Prop} {ad : Nat → Nat} {u_above : Int64} {u_below : Int64} {u_firsts : Int32} {u_freed : Int32} {u_whole : Int64} {N : Nat} {c_askers : Int32} {c_places : Int32} {c_seats : Nat → Int32} {c_wish : Nat → Int32}  {k60 : Int32 → (Nat → Int64) → (Nat → Int32) → (Nat → Int32) → Int32 → Int64 → Int32 → Int32 → Int32 → Int32 → Option (Int32 × Int32 × (Nat → Int64) × (Nat → Int32) × (Nat → Int32))} {res : Int32 × Int32 × (Nat → Int64) × (Nat → Int32) × (Nat → Int32)} (hk60 : ∀ {c_full : Int32} {c_count : Nat → Int64} {c_found : Nat → Int32} {c_weight : Nat → Int32} {v3 : Int32} {v4 : Int64} {v6 : Int32} {v7 : Int32} {v8 : Int32} {v9 : Int32}, k60 c_full c_count c_found c_weight v3 v4 v6 v7 v8 v9 = some res → GG mu_X8_givingAt κ ω A (QR κ ω A ad (some (.int res.1)) (w_X8_givingAt c_askers c_places res.2.1 res.2.2.1 res.2.2.2.1 c_seats res.2.2.2.2 c_wish u_above u_below u_firsts u_freed u_whole)) ad 0 0 60 (w_X8_givingAt c_askers c_places c_full c_count c_found c_seats c_weight c_wish u_above u_below u_firsts u_freed u_whole) [some (.ref 0), none, none, some (.int v3), some (.long v4), none, some (.int v6), some (.int v7), some (.int v8), some (.int v9)] []) {c_full : Int32} {c_count : Nat → Int64} {c_found : Nat → Int32} {c_weight : Nat → Int32} {v3 : Int32} {v4 : Int64} {v6 : Int32} {v7 : Int32} {v8 : Int32} {v9 : Int32} (hf : f_X8_givingAt_88 N c_askers c_places c_seats c_wish k60 c_full c_count c_found c_weight v3 v4 v6 v7 v8 v9 = some res) : GG mu_X8_givingAt κ ω A (QR κ ω A ad (some (.int res.1)) (w_X8_givingAt c_askers c_places res.2.1 res.2.2.1 res.2.2.2.1 c_seats res.2.2.2.2 c_wish u_above u_below u_firsts u_freed u_whole)) ad 0 0 88 (w_X8_givingAt c_askers c_places c_full c_count c_found c_seats c_weight c_wish u_above u_below u_firsts u_freed u_whole) [some (.ref 0), none, none, some (.int v3), some (.long v4), none, some (.int v6), some (.int v7), some (.int v8), some (.int v9)] [] := by
  refine G_lload dX8_givingAt_88 rfl ?_
  refine G_iload dX8_givingAt_90 rfl ?_
  refine G_iconst (-1 : Int32) dX8_givingAt_92 (by decide) ?_
  refine G_icmp_ne 100 dX8_givingAt_93 (by decide) (fun h1 => ?_) (fun h1 => ?_)
  · replace hf := ob_f h1 hf
    refine G_aload_n dX8_givingAt_100 rfl rfl ?_
    refine G_get (v := .ref 1) F_X8_23 dX8_givingAt_101 rfl rfl ?_
    refine G_sipush 4096 dX8_givingAt_104 (by decide) ?_
    refine G_iload dX8_givingAt_107 rfl ?_
    refine G_iconst 1 dX8_givingAt_109 (by decide) ?_
    refine G_iadd dX8_givingAt_110 ?_
    refine G_imul dX8_givingAt_111 ?_
    refine G_iload dX8_givingAt_112 rfl ?_
    refine G_iadd dX8_givingAt_114 ?_
    obtain ⟨t2, ht2, hf⟩ := ob hf
    refine G_lald dX8_givingAt_115 rfl ht2 ?_
    refine GG.sb (lv2 := [some (.ref 0), none, none, some (.int v3), none, none, some (.int v6), some (.int v7), some (.int v8), none]) ?_ (lvS_v rfl (lvS_n (lvS_n (lvS_v rfl (lvS_n (lvS_n (lvS_v rfl (lvS_v rfl (lvS_v rfl (lvS_n (lvS_e)))))))))))
    exact g_X8_givingAt_116 hk60 hf
  · replace hf := ob_t h1 hf
    refine G_lconst 0 dX8_givingAt_96 (by decide) ?_
    refine G_goto 116 dX8_givingAt_97 (by decide) ?_
    refine GG.sb (lv2 := [some (.ref 0), none, none, some (.int v3), none, none, some (.int v6), some (.int v7), some (.int v8), none]) ?_ (lvS_v rfl (lvS_n (lvS_n (lvS_v rfl (lvS_n (lvS_n (lvS_v rfl (lvS_v rfl (lvS_v rfl (lvS_n (lvS_e)))))))))))
    exact g_X8_givingAt_116 hk60 hf
def f_X8_givingAt_60 (N : Nat) (c_askers : Int32) (c_places : Int32) (c_seats : Nat → Int32) (c_wish : Nat → Int32) (k47 : Int32 → (Nat → Int64) → (Nat → Int32) → (Nat → Int32) → Int32 → Int64 → Int32 → Int32 → Option (Int32 × Int32 × (Nat → Int64) × (Nat → Int32) × (Nat → Int32))) : Nat → Int32 → (Nat → Int64) → (Nat → Int32) → (Nat → Int32) → Int32 → Int64 → Int32 → Int32 → Int32 → Int32 → Option (Int32 × Int32 × (Nat → Int64) × (Nat → Int32) × (Nat → Int32))
  | 0, _, _, _, _, _, _, _, _, _, _ => none
  | n + 1, c_full, c_count, c_found, c_weight, v3, v4, v6, v7, v8, v9 =>
    (if v9 = (-1 : Int32) then
      f_X8_givingAt_88 N c_askers c_places c_seats c_wish (f_X8_givingAt_60 N c_askers c_places c_seats c_wish k47 n) c_full c_count c_found c_weight v3 v4 v6 v7 v8 v9
    else
      (rdL 36864 c_count ((4096 * (v7 + 1)) + v9)).bind fun t2 =>
      (if v4 < t2 then
        (wrI 8 c_found v7 v8).bind fun t4 =>
        k47 c_full c_count t4 c_weight v3 v4 v9 (v7 + 1)
      else
        f_X8_givingAt_88 N c_askers c_places c_seats c_wish (f_X8_givingAt_60 N c_askers c_places c_seats c_wish k47 n) c_full c_count c_found c_weight v3 v4 v6 v7 v8 v9))
set_option maxHeartbeats 4000000 in
set_option maxRecDepth 100000 in
theorem g_X8_givingAt_60 {κ : KC} {ω : KW} {A : Nat → Prop} {ad : Nat → Nat} {u_above : Int64} {u_below : Int64} {u_firsts : Int32} {u_freed : Int32} {u_whole : Int64} {N : Nat} {c_askers : Int32} {c_places : Int32} {c_seats : Nat → Int32} {c_wish : Nat → Int32}  {k47 : Int32 → (Nat → Int64) → (Nat → Int32) → (Nat → Int32) → Int32 → Int64 → Int32 → Int32 → Option (Int32 × Int32 × (Nat → Int64) × (Nat → Int32) × (Nat → Int32))} {res : Int32 × Int32 × (Nat → Int64) × (Nat → Int32) × (Nat → Int32)} (hk47 : ∀ {c_full : Int32} {c_count : Nat → Int64} {c_found : Nat → Int32} {c_weight : Nat → Int32} {v3 : Int32} {v4 : Int64} {v6 : Int32} {v7 : Int32}, k47 c_full c_count c_found c_weight v3 v4 v6 v7 = some res → GG mu_X8_givingAt κ ω A (QR κ ω A ad (some (.int res.1)) (w_X8_givingAt c_askers c_places res.2.1 res.2.2.1 res.2.2.2.1 c_seats res.2.2.2.2 c_wish u_above u_below u_firsts u_freed u_whole)) ad 0 0 47 (w_X8_givingAt c_askers c_places c_full c_count c_found c_seats c_weight c_wish u_above u_below u_firsts u_freed u_whole) [some (.ref 0), none, none, some (.int v3), some (.long v4), none, some (.int v6), some (.int v7), none, none] []) : ∀ (n : Nat) {c_full : Int32} {c_count : Nat → Int64} {c_found : Nat → Int32} {c_weight : Nat → Int32} {v3 : Int32} {v4 : Int64} {v6 : Int32} {v7 : Int32} {v8 : Int32} {v9 : Int32}, f_X8_givingAt_60 N c_askers c_places c_seats c_wish k47 n c_full c_count c_found c_weight v3 v4 v6 v7 v8 v9 = some res → GG mu_X8_givingAt κ ω A (QR κ ω A ad (some (.int res.1)) (w_X8_givingAt c_askers c_places res.2.1 res.2.2.1 res.2.2.2.1 c_seats res.2.2.2.2 c_wish u_above u_below u_firsts u_freed u_whole)) ad 0 0 60 (w_X8_givingAt c_askers c_places c_full c_count c_found c_seats c_weight c_wish u_above u_below u_firsts u_freed u_whole) [some (.ref 0), none, none, some (.int v3), some (.long v4), none, some (.int v6), some (.int v7), some (.int v8), some (.int v9)] [] := by
  intro n
  induction n with
  | zero => intro c_full c_count c_found c_weight v3 v4 v6 v7 v8 v9 hf; exact ob_0 hf
  | succ n ih =>
    intro c_full c_count c_found c_weight v3 v4 v6 v7 v8 v9 hf
    refine G_iload dX8_givingAt_60 rfl ?_
    refine G_iconst (-1 : Int32) dX8_givingAt_62 (by decide) ?_
    refine G_icmp_eq 88 dX8_givingAt_63 (by decide) (fun h1 => ?_) (fun h1 => ?_)
    · replace hf := ob_t h1 hf
      exact g_X8_givingAt_88 ih hf
    · replace hf := ob_f h1 hf
      refine G_lload dX8_givingAt_66 rfl ?_
      refine G_aload_n dX8_givingAt_68 rfl rfl ?_
      refine G_get (v := .ref 1) F_X8_23 dX8_givingAt_69 rfl rfl ?_
      refine G_sipush 4096 dX8_givingAt_72 (by decide) ?_
      refine G_iload dX8_givingAt_75 rfl ?_
      refine G_iconst 1 dX8_givingAt_77 (by decide) ?_
      refine G_iadd dX8_givingAt_78 ?_
      refine G_imul dX8_givingAt_79 ?_
      refine G_iload dX8_givingAt_80 rfl ?_
      refine G_iadd dX8_givingAt_82 ?_
      obtain ⟨t2, ht2, hf⟩ := ob hf
      refine G_lald dX8_givingAt_83 rfl ht2 ?_
      refine G_lcmp_lt 137 dX8_givingAt_84 dX8_givingAt_85 (by decide) (fun h3 => ?_) (fun h3 => ?_)
      · replace hf := ob_t h3 hf
        refine G_aload_n dX8_givingAt_137 rfl rfl ?_
        refine G_get (v := .ref 2) F_X8_27 dX8_givingAt_138 rfl rfl ?_
        refine G_iload dX8_givingAt_141 rfl ?_
        refine G_iload dX8_givingAt_143 rfl ?_
        obtain ⟨t4, ht4, hf⟩ := ob hf
        refine G_iast (w2 := (w_X8_givingAt c_askers c_places c_full c_count t4 c_seats c_weight c_wish u_above u_below u_firsts u_freed u_whole)) dX8_givingAt_145 rfl ht4 rfl ?_
        refine G_iload dX8_givingAt_146 rfl ?_
        refine G_istore dX8_givingAt_148 (ltb rfl) ?_
        change GG _ _ _ _ _ _ _ _ _ _ [some (.ref 0), none, none, some (.int v3), some (.long v4), none, some (.int v9), some (.int v7), some (.int v8), some (.int v9)] _
        refine G_iinc 1 dX8_givingAt_150 (by decide) rfl (ltb rfl) ?_
        change GG _ _ _ _ _ _ _ _ _ _ [some (.ref 0), none, none, some (.int v3), some (.long v4), none, some (.int v9), some (.int (v7 + 1)), some (.int v8), some (.int v9)] _
        refine G_goto 47 dX8_givingAt_153 (by decide) ?_
        refine GG.sb (lv2 := [some (.ref 0), none, none, some (.int v3), some (.long v4), none, some (.int v9), some (.int (v7 + 1)), none, none]) ?_ (lvS_v rfl (lvS_n (lvS_n (lvS_v rfl (lvS_v rfl (lvS_n (lvS_v rfl (lvS_v rfl (lvS_n (lvS_n (lvS_e)))))))))))
        exact hk47 hf
      · replace hf := ob_f h3 hf
        exact g_X8_givingAt_88 ih hf
def f_X8_givingAt_47 (N : Nat) (c_askers : Int32) (c_places : Int32) (c_seats : Nat → Int32) (c_wish : Nat → Int32) : Nat → Int32 → (Nat → Int64) → (Nat → Int32) → (Nat → Int32) → Int32 → Int64 → Int32 → Int32 → Option (Int32 × Int32 × (Nat → Int64) × (Nat → Int32) × (Nat → Int32))
  | 0, _, _, _, _, _, _, _, _ => none
  | n + 1, c_full, c_count, c_found, c_weight, v3, v4, v6, v7 =>
    (if v3 < v7 then
      (rdI 8 c_found v3).bind fun t2 =>
      some (t2 - 1, c_full, c_count, c_found, c_weight)
    else
      f_X8_givingAt_60 N c_askers c_places c_seats c_wish (f_X8_givingAt_47 N c_askers c_places c_seats c_wish n) N c_full c_count c_found c_weight v3 v4 v6 v7 0 v6)
set_option maxHeartbeats 4000000 in
set_option maxRecDepth 100000 in
theorem g_X8_givingAt_47 {κ : KC} {ω : KW} {A : Nat → Prop} {ad : Nat → Nat} {u_above : Int64} {u_below : Int64} {u_firsts : Int32} {u_freed : Int32} {u_whole : Int64} {N : Nat} {c_askers : Int32} {c_places : Int32} {c_seats : Nat → Int32} {c_wish : Nat → Int32}  {res : Int32 × Int32 × (Nat → Int64) × (Nat → Int32) × (Nat → Int32)} : ∀ (n : Nat) {c_full : Int32} {c_count : Nat → Int64} {c_found : Nat → Int32} {c_weight : Nat → Int32} {v3 : Int32} {v4 : Int64} {v6 : Int32} {v7 : Int32}, f_X8_givingAt_47 N c_askers c_places c_seats c_wish n c_full c_count c_found c_weight v3 v4 v6 v7 = some res → GG mu_X8_givingAt κ ω A (QR κ ω A ad (some (.int res.1)) (w_X8_givingAt c_askers c_places res.2.1 res.2.2.1 res.2.2.2.1 c_seats res.2.2.2.2 c_wish u_above u_below u_firsts u_freed u_whole)) ad 0 0 47 (w_X8_givingAt c_askers c_places c_full c_count c_found c_seats c_weight c_wish u_above u_below u_firsts u_freed u_whole) [some (.ref 0), none, none, some (.int v3), some (.long v4), none, some (.int v6), some (.int v7), none, none] [] := by
  intro n
  induction n with
  | zero => intro c_full c_count c_found c_weight v3 v4 v6 v7 hf; exact ob_0 hf
  | succ n ih =>
    intro c_full c_count c_found c_weight v3 v4 v6 v7 hf
    refine G_iload dX8_givingAt_47 rfl ?_
    refine G_iload_n dX8_givingAt_49 rfl rfl ?_
    refine G_icmp_gt 156 dX8_givingAt_50 (by decide) (fun h1 => ?_) (fun h1 => ?_)
    · replace hf := ob_t h1 hf
      refine G_aload_n dX8_givingAt_156 rfl rfl ?_
      refine G_get (v := .ref 2) F_X8_27 dX8_givingAt_157 rfl rfl ?_
      refine G_iload_n dX8_givingAt_160 rfl rfl ?_
      obtain ⟨t2, ht2, hf⟩ := ob hf
      refine G_iald dX8_givingAt_161 rfl ht2 ?_
      refine G_iconst 1 dX8_givingAt_162 (by decide) ?_
      refine G_isub dX8_givingAt_163 ?_
      obtain rfl := os hf
      exact G_ireturn dX8_givingAt_164 rfl
    · replace hf := ob_f h1 hf
      refine G_iconst 0 dX8_givingAt_53 (by decide) ?_
      refine G_istore dX8_givingAt_54 (ltb rfl) ?_
      change GG _ _ _ _ _ _ _ _ _ _ [some (.ref 0), none, none, some (.int v3), some (.long v4), none, some (.int v6), some (.int v7), some (.int 0), none] _
      refine G_iload dX8_givingAt_56 rfl ?_
      refine G_istore dX8_givingAt_58 (ltb rfl) ?_
      change GG _ _ _ _ _ _ _ _ _ _ [some (.ref 0), none, none, some (.int v3), some (.long v4), none, some (.int v6), some (.int v7), some (.int 0), some (.int v6)] _
      exact g_X8_givingAt_60 ih N hf
def f_X8_givingAt (N : Nat) (c_askers : Int32) (c_places : Int32) (c_seats : Nat → Int32) (c_wish : Nat → Int32) (c_full : Int32) (c_count : Nat → Int64) (c_found : Nat → Int32) (c_weight : Nat → Int32) (a1 : Int64) (a3 : Int32) : Option (Int32 × Int32 × (Nat → Int64) × (Nat → Int32) × (Nat → Int32)) :=
  (f_X8_findCount N c_askers c_places c_seats c_wish c_full c_count c_weight).bind fun (o1, o2, o3) =>
  (f_X8_isAsker N c_askers a3).bind fun r5 =>
  (if r5 = 0 then
    some ((-2 : Int32), o1, o2, c_found, o3)
  else
    (if a1 < 0 then
      some ((-2 : Int32), o1, o2, c_found, o3)
    else
      (rdL 36864 o2 o1).bind fun t9 =>
      (if a1 < t9 then
        f_X8_givingAt_47 N c_askers c_places c_seats c_wish N o1 o2 c_found o3 a3 a1 o1 0
      else
        some ((-2 : Int32), o1, o2, c_found, o3))))
set_option maxHeartbeats 4000000 in
set_option maxRecDepth 100000 in
theorem c_X8_givingAt {N : Nat} {c_askers : Int32} {c_places : Int32} {c_seats : Nat → Int32} {c_wish : Nat → Int32} {c_full : Int32} {c_count : Nat → Int64} {c_found : Nat → Int32} {c_weight : Nat → Int32} {u_above : Int64} {u_below : Int64} {u_firsts : Int32} {u_freed : Int32} {u_whole : Int64} {a1 : Int64} {a3 : Int32} {res : Int32 × Int32 × (Nat → Int64) × (Nat → Int32) × (Nat → Int32)} (hf : f_X8_givingAt N c_askers c_places c_seats c_wish c_full c_count c_found c_weight a1 a3 = some res) : Con mu_X8_givingAt [.ref 0, .long a1, .int a3] (w_X8_givingAt c_askers c_places c_full c_count c_found c_seats c_weight c_wish u_above u_below u_firsts u_freed u_whole) (some (.int res.1)) (w_X8_givingAt c_askers c_places res.2.1 res.2.2.1 res.2.2.2.1 c_seats res.2.2.2.2 c_wish u_above u_below u_firsts u_freed u_whole) := by
  refine Con.mk (show plainName RX8 = true by decide +kernel) (leb rfl) (fun κ ω A ad => ?_)
  change GG mu_X8_givingAt κ ω A (QR κ ω A ad (some (.int res.1)) (w_X8_givingAt c_askers c_places res.2.1 res.2.2.1 res.2.2.2.1 c_seats res.2.2.2.2 c_wish u_above u_below u_firsts u_freed u_whole)) ad 0 0 0 (w_X8_givingAt c_askers c_places c_full c_count c_found c_seats c_weight c_wish u_above u_below u_firsts u_freed u_whole) [some (.ref 0), some (.long a1), none, some (.int a3), none, none, none, none, none, none] []
  refine G_aload_n dX8_givingAt_0 rfl rfl ?_
  obtain ⟨⟨o1, o2, o3⟩, hc4, hf⟩ := ob hf
  refine G_callV (μ2 := mu_X8_findCount) (As := []) (w2 := (w_X8_givingAt c_askers c_places o1 o2 c_found c_seats o3 c_wish u_above u_below u_firsts u_freed u_whole)) (wc := (w_X8_findCount c_askers c_places c_full c_count c_seats c_weight c_wish u_above u_below u_firsts u_freed u_whole)) (wc2 := (w_X8_findCount c_askers c_places o1 o2 c_seats o3 c_wish u_above u_below u_firsts u_freed u_whole)) (rest := []) (rv := []) [0, 1, 3, 4, 5] [1000, 2, 1001, 1002, 1003, 1004, 1005, 1006, 1007, 1008, 1009, 1010, 1011, 1012, 1013, 1014, 1015] [2] [1, 2, 0, 3, 4, 5] (c_X8_findCount hc4) cw_X8_findCount m_X8_124 dX8_givingAt_1 rfl ⟨leb rfl, leb rfl⟩ ⟨rfl, rfl⟩ rfl ⟨_, rfl, rfl⟩ (Fit.mk rfl rfl rfl) rfl (leb rfl) (ROsub.nil rfl rfl) rfl ?_
  change GG _ _ _ _ _ _ _ _ _ (w_X8_givingAt c_askers c_places o1 o2 c_found c_seats o3 c_wish u_above u_below u_firsts u_freed u_whole) [some (.ref 0), some (.long a1), none, some (.int a3), none, none, none, none, none, none] []
  refine G_aload_n dX8_givingAt_4 rfl rfl ?_
  refine G_iload_n dX8_givingAt_5 rfl rfl ?_
  obtain ⟨r5, hc6, hf⟩ := ob hf
  refine G_callV (μ2 := mu_X8_isAsker) (As := [.int a3]) (w2 := (w_X8_givingAt c_askers c_places o1 o2 c_found c_seats o3 c_wish u_above u_below u_firsts u_freed u_whole)) (wc := (w_X8_isAsker c_askers c_places u_above u_below o1 u_firsts u_freed u_whole)) (wc2 := (w_X8_isAsker c_askers c_places u_above u_below o1 u_firsts u_freed u_whole)) (rest := []) (rv := [.int r5]) [0] [3, 5, 1000, 4, 1, 2, 1001, 1002, 1003, 1004, 1005, 1006, 1007, 1008, 1009, 1010, 1011, 1012, 1013, 1014, 1015] [1, 2, 3, 4, 5] [5, 0, 1, 2, 3, 4] (c_X8_isAsker hc6) cw_X8_isAsker m_X8_108 dX8_givingAt_6 rfl ⟨leb rfl, leb rfl⟩ ⟨rfl, rfl⟩ rfl ⟨_, rfl, rfl⟩ (Fit.mk rfl rfl rfl) rfl (leb rfl) (ROsub.nil rfl rfl) rfl ?_
  change GG _ _ _ _ _ _ _ _ _ (w_X8_givingAt c_askers c_places o1 o2 c_found c_seats o3 c_wish u_above u_below u_firsts u_freed u_whole) [some (.ref 0), some (.long a1), none, some (.int a3), none, none, none, none, none, none] [.int r5]
  refine G_if_eq 32 dX8_givingAt_9 (by decide) (fun h7 => ?_) (fun h7 => ?_)
  · replace hf := ob_t h7 hf
    refine G_bipush (-2 : Int32) dX8_givingAt_32 (by decide) ?_
    obtain rfl := os hf
    exact G_ireturn dX8_givingAt_34 rfl
  · replace hf := ob_f h7 hf
    refine G_lload_n dX8_givingAt_12 rfl rfl ?_
    refine G_lconst 0 dX8_givingAt_13 (by decide) ?_
    refine G_lcmp_lt 32 dX8_givingAt_14 dX8_givingAt_15 (by decide) (fun h8 => ?_) (fun h8 => ?_)
    · replace hf := ob_t h8 hf
      refine G_bipush (-2 : Int32) dX8_givingAt_32 (by decide) ?_
      obtain rfl := os hf
      exact G_ireturn dX8_givingAt_34 rfl
    · replace hf := ob_f h8 hf
      refine G_lload_n dX8_givingAt_18 rfl rfl ?_
      refine G_aload_n dX8_givingAt_19 rfl rfl ?_
      refine G_get (v := .ref 1) F_X8_23 dX8_givingAt_20 rfl rfl ?_
      refine G_aload_n dX8_givingAt_23 rfl rfl ?_
      refine G_get (v := .int o1) F_X8_114 dX8_givingAt_24 rfl rfl ?_
      obtain ⟨t9, ht9, hf⟩ := ob hf
      refine G_lald dX8_givingAt_27 rfl ht9 ?_
      refine G_lcmp_lt 35 dX8_givingAt_28 dX8_givingAt_29 (by decide) (fun h10 => ?_) (fun h10 => ?_)
      · replace hf := ob_t h10 hf
        refine G_lload_n dX8_givingAt_35 rfl rfl ?_
        refine G_lstore dX8_givingAt_36 (ltb rfl) ?_
        change GG _ _ _ _ _ _ _ _ _ _ [some (.ref 0), some (.long a1), none, some (.int a3), some (.long a1), none, none, none, none, none] _
        refine G_aload_n dX8_givingAt_38 rfl rfl ?_
        refine G_get (v := .int o1) F_X8_114 dX8_givingAt_39 rfl rfl ?_
        refine G_istore dX8_givingAt_42 (ltb rfl) ?_
        change GG _ _ _ _ _ _ _ _ _ _ [some (.ref 0), some (.long a1), none, some (.int a3), some (.long a1), none, some (.int o1), none, none, none] _
        refine G_iconst 0 dX8_givingAt_44 (by decide) ?_
        refine G_istore dX8_givingAt_45 (ltb rfl) ?_
        change GG _ _ _ _ _ _ _ _ _ _ [some (.ref 0), some (.long a1), none, some (.int a3), some (.long a1), none, some (.int o1), some (.int 0), none, none] _
        refine GG.sb (lv2 := [some (.ref 0), none, none, some (.int a3), some (.long a1), none, some (.int o1), some (.int 0), none, none]) ?_ (lvS_v rfl (lvS_n (lvS_n (lvS_v rfl (lvS_v rfl (lvS_n (lvS_v rfl (lvS_v rfl (lvS_n (lvS_n (lvS_e)))))))))))
        exact g_X8_givingAt_47 N hf
      · replace hf := ob_f h10 hf
        refine G_bipush (-2 : Int32) dX8_givingAt_32 (by decide) ?_
        obtain rfl := os hf
        exact G_ireturn dX8_givingAt_34 rfl
set_option maxRecDepth 20000 in
theorem dX8_give_0 : decode cX8_give 0 = .ok (.iload_n 1, 1) := by decide +kernel
set_option maxRecDepth 20000 in
theorem dX8_give_1 : decode cX8_give 1 = .ok (.invokestatic 127, 3) := by decide +kernel
set_option maxRecDepth 20000 in
theorem dX8_give_4 : decode cX8_give 4 = .ok (.ifCond .eq 24, 3) := by decide +kernel
set_option maxRecDepth 20000 in
theorem dX8_give_7 : decode cX8_give 7 = .ok (.aload_n 0, 1) := by decide +kernel
set_option maxRecDepth 20000 in
theorem dX8_give_8 : decode cX8_give 8 = .ok (.iload_n 2, 1) := by decide +kernel
set_option maxRecDepth 20000 in
theorem dX8_give_9 : decode cX8_give 9 = .ok (.invokevirtual 108, 3) := by decide +kernel
set_option maxRecDepth 20000 in
theorem dX8_give_12 : decode cX8_give 12 = .ok (.ifCond .eq 16, 3) := by decide +kernel
set_option maxRecDepth 20000 in
theorem dX8_give_15 : decode cX8_give 15 = .ok (.iload_n 3, 1) := by decide +kernel
set_option maxRecDepth 20000 in
theorem dX8_give_16 : decode cX8_give 16 = .ok (.iconst (-1), 1) := by decide +kernel
set_option maxRecDepth 20000 in
theorem dX8_give_17 : decode cX8_give 17 = .ok (.if_icmp .eq 14, 3) := by decide +kernel
set_option maxRecDepth 20000 in
theorem dX8_give_20 : decode cX8_give 20 = .ok (.aload_n 0, 1) := by decide +kernel
set_option maxRecDepth 20000 in
theorem dX8_give_21 : decode cX8_give 21 = .ok (.iload_n 3, 1) := by decide +kernel
set_option maxRecDepth 20000 in
theorem dX8_give_22 : decode cX8_give 22 = .ok (.invokevirtual 100, 3) := by decide +kernel
set_option maxRecDepth 20000 in
theorem dX8_give_25 : decode cX8_give 25 = .ok (.ifCond .ne 6, 3) := by decide +kernel
set_option maxRecDepth 20000 in
theorem dX8_give_28 : decode cX8_give 28 = .ok (.bipush (-2), 2) := by decide +kernel
set_option maxRecDepth 20000 in
theorem dX8_give_30 : decode cX8_give 30 = .ok (.ireturn, 1) := by decide +kernel
set_option maxRecDepth 20000 in
theorem dX8_give_31 : decode cX8_give 31 = .ok (.aload_n 0, 1) := by decide +kernel
set_option maxRecDepth 20000 in
theorem dX8_give_32 : decode cX8_give 32 = .ok (.getfield 16, 3) := by decide +kernel
set_option maxRecDepth 20000 in
theorem dX8_give_35 : decode cX8_give 35 = .ok (.bipush 8, 2) := by decide +kernel
set_option maxRecDepth 20000 in
theorem dX8_give_37 : decode cX8_give 37 = .ok (.iload_n 1, 1) := by decide +kernel
set_option maxRecDepth 20000 in
theorem dX8_give_38 : decode cX8_give 38 = .ok (.imul, 1) := by decide +kernel
set_option maxRecDepth 20000 in
theorem dX8_give_39 : decode cX8_give 39 = .ok (.iload_n 2, 1) := by decide +kernel
set_option maxRecDepth 20000 in
theorem dX8_give_40 : decode cX8_give 40 = .ok (.iadd, 1) := by decide +kernel
set_option maxRecDepth 20000 in
theorem dX8_give_41 : decode cX8_give 41 = .ok (.iaload, 1) := by decide +kernel
set_option maxRecDepth 20000 in
theorem dX8_give_42 : decode cX8_give 42 = .ok (.iload_n 3, 1) := by decide +kernel
set_option maxRecDepth 20000 in
theorem dX8_give_43 : decode cX8_give 43 = .ok (.iconst 1, 1) := by decide +kernel
set_option maxRecDepth 20000 in
theorem dX8_give_44 : decode cX8_give 44 = .ok (.iadd, 1) := by decide +kernel
set_option maxRecDepth 20000 in
theorem dX8_give_45 : decode cX8_give 45 = .ok (.if_icmp .ne 7, 3) := by decide +kernel
set_option maxRecDepth 20000 in
theorem dX8_give_48 : decode cX8_give 48 = .ok (.iconst 1, 1) := by decide +kernel
set_option maxRecDepth 20000 in
theorem dX8_give_49 : decode cX8_give 49 = .ok (.goto 4, 3) := by decide +kernel
set_option maxRecDepth 20000 in
theorem dX8_give_52 : decode cX8_give 52 = .ok (.iconst 0, 1) := by decide +kernel
set_option maxRecDepth 20000 in
theorem dX8_give_53 : decode cX8_give 53 = .ok (.istore 4, 2) := by decide +kernel
set_option maxRecDepth 20000 in
theorem dX8_give_55 : decode cX8_give 55 = .ok (.iload_n 3, 1) := by decide +kernel
set_option maxRecDepth 20000 in
theorem dX8_give_56 : decode cX8_give 56 = .ok (.iconst (-1), 1) := by decide +kernel
set_option maxRecDepth 20000 in
theorem dX8_give_57 : decode cX8_give 57 = .ok (.if_icmp .eq 38, 3) := by decide +kernel
set_option maxRecDepth 20000 in
theorem dX8_give_60 : decode cX8_give 60 = .ok (.aload_n 0, 1) := by decide +kernel
set_option maxRecDepth 20000 in
theorem dX8_give_61 : decode cX8_give 61 = .ok (.getfield 13, 3) := by decide +kernel
set_option maxRecDepth 20000 in
theorem dX8_give_64 : decode cX8_give 64 = .ok (.bipush 6, 2) := by decide +kernel
set_option maxRecDepth 20000 in
theorem dX8_give_66 : decode cX8_give 66 = .ok (.iload_n 2, 1) := by decide +kernel
set_option maxRecDepth 20000 in
theorem dX8_give_67 : decode cX8_give 67 = .ok (.imul, 1) := by decide +kernel
set_option maxRecDepth 20000 in
theorem dX8_give_68 : decode cX8_give 68 = .ok (.iload_n 3, 1) := by decide +kernel
set_option maxRecDepth 20000 in
theorem dX8_give_69 : decode cX8_give 69 = .ok (.iadd, 1) := by decide +kernel
set_option maxRecDepth 20000 in
theorem dX8_give_70 : decode cX8_give 70 = .ok (.iaload, 1) := by decide +kernel
set_option maxRecDepth 20000 in
theorem dX8_give_71 : decode cX8_give 71 = .ok (.ifCond .eq 21, 3) := by decide +kernel
set_option maxRecDepth 20000 in
theorem dX8_give_74 : decode cX8_give 74 = .ok (.aload_n 0, 1) := by decide +kernel
set_option maxRecDepth 20000 in
theorem dX8_give_75 : decode cX8_give 75 = .ok (.iload_n 1, 1) := by decide +kernel
set_option maxRecDepth 20000 in
theorem dX8_give_76 : decode cX8_give 76 = .ok (.iload_n 3, 1) := by decide +kernel
set_option maxRecDepth 20000 in
theorem dX8_give_77 : decode cX8_give 77 = .ok (.invokevirtual 104, 3) := by decide +kernel
set_option maxRecDepth 20000 in
theorem dX8_give_80 : decode cX8_give 80 = .ok (.iload 4, 2) := by decide +kernel
set_option maxRecDepth 20000 in
theorem dX8_give_82 : decode cX8_give 82 = .ok (.isub, 1) := by decide +kernel
set_option maxRecDepth 20000 in
theorem dX8_give_83 : decode cX8_give 83 = .ok (.aload_n 0, 1) := by decide +kernel
set_option maxRecDepth 20000 in
theorem dX8_give_84 : decode cX8_give 84 = .ok (.getfield 7, 3) := by decide +kernel
set_option maxRecDepth 20000 in
theorem dX8_give_87 : decode cX8_give 87 = .ok (.iload_n 3, 1) := by decide +kernel
set_option maxRecDepth 20000 in
theorem dX8_give_88 : decode cX8_give 88 = .ok (.iaload, 1) := by decide +kernel
set_option maxRecDepth 20000 in
theorem dX8_give_89 : decode cX8_give 89 = .ok (.if_icmp .lt 6, 3) := by decide +kernel
set_option maxRecDepth 20000 in
theorem dX8_give_92 : decode cX8_give 92 = .ok (.bipush (-3), 2) := by decide +kernel
set_option maxRecDepth 20000 in
theorem dX8_give_94 : decode cX8_give 94 = .ok (.ireturn, 1) := by decide +kernel
set_option maxRecDepth 20000 in
theorem dX8_give_95 : decode cX8_give 95 = .ok (.aload_n 0, 1) := by decide +kernel
set_option maxRecDepth 20000 in
theorem dX8_give_96 : decode cX8_give 96 = .ok (.getfield 16, 3) := by decide +kernel
set_option maxRecDepth 20000 in
theorem dX8_give_99 : decode cX8_give 99 = .ok (.bipush 8, 2) := by decide +kernel
set_option maxRecDepth 20000 in
theorem dX8_give_101 : decode cX8_give 101 = .ok (.iload_n 1, 1) := by decide +kernel
set_option maxRecDepth 20000 in
theorem dX8_give_102 : decode cX8_give 102 = .ok (.imul, 1) := by decide +kernel
set_option maxRecDepth 20000 in
theorem dX8_give_103 : decode cX8_give 103 = .ok (.iload_n 2, 1) := by decide +kernel
set_option maxRecDepth 20000 in
theorem dX8_give_104 : decode cX8_give 104 = .ok (.iadd, 1) := by decide +kernel
set_option maxRecDepth 20000 in
theorem dX8_give_105 : decode cX8_give 105 = .ok (.iload_n 3, 1) := by decide +kernel
set_option maxRecDepth 20000 in
theorem dX8_give_106 : decode cX8_give 106 = .ok (.iconst 1, 1) := by decide +kernel
set_option maxRecDepth 20000 in
theorem dX8_give_107 : decode cX8_give 107 = .ok (.iadd, 1) := by decide +kernel
set_option maxRecDepth 20000 in
theorem dX8_give_108 : decode cX8_give 108 = .ok (.iastore, 1) := by decide +kernel
set_option maxRecDepth 20000 in
theorem dX8_give_109 : decode cX8_give 109 = .ok (.iconst 1, 1) := by decide +kernel
set_option maxRecDepth 20000 in
theorem dX8_give_110 : decode cX8_give 110 = .ok (.ireturn, 1) := by decide +kernel
def f_X8_give_95 (N : Nat) (c_askers : Int32) (c_places : Int32) (c_seats : Nat → Int32) (c_wish : Nat → Int32) (c_told : Nat → Int32) (v1 : Int32) (v2 : Int32) (v3 : Int32) : Option (Int32 × (Nat → Int32)) :=
    (wrI 32 c_told ((8 * v1) + v2) (v3 + 1)).bind fun t1 =>
    some (1, t1)
set_option maxHeartbeats 4000000 in
set_option maxRecDepth 100000 in
theorem g_X8_give_95 {κ : KC} {ω : KW} {A : Nat → Prop} {ad : Nat → Nat} {u_above : Int64} {u_below : Int64} {u_full : Int32} {u_firsts : Int32} {u_freed : Int32} {u_whole : Int64} {N : Nat} {c_askers : Int32} {c_places : Int32} {c_seats : Nat → Int32} {c_wish : Nat → Int32}  {res : Int32 × (Nat → Int32)} {c_told : Nat → Int32} {v1 : Int32} {v2 : Int32} {v3 : Int32} (hf : f_X8_give_95 N c_askers c_places c_seats c_wish c_told v1 v2 v3 = some res) : GG mu_X8_give κ ω A (QR κ ω A ad (some (.int res.1)) (w_X8_give c_askers c_places c_seats res.2 c_wish u_above u_below u_full u_firsts u_freed u_whole)) ad 0 0 95 (w_X8_give c_askers c_places c_seats c_told c_wish u_above u_below u_full u_firsts u_freed u_whole) [some (.ref 0), some (.int v1), some (.int v2), some (.int v3), none] [] := by
  refine G_aload_n dX8_give_95 rfl rfl ?_
  refine G_get (v := .ref 2) F_X8_16 dX8_give_96 rfl rfl ?_
  refine G_bipush 8 dX8_give_99 (by decide) ?_
  refine G_iload_n dX8_give_101 rfl rfl ?_
  refine G_imul dX8_give_102 ?_
  refine G_iload_n dX8_give_103 rfl rfl ?_
  refine G_iadd dX8_give_104 ?_
  refine G_iload_n dX8_give_105 rfl rfl ?_
  refine G_iconst 1 dX8_give_106 (by decide) ?_
  refine G_iadd dX8_give_107 ?_
  obtain ⟨t1, ht1, hf⟩ := ob hf
  refine G_iast (w2 := (w_X8_give c_askers c_places c_seats t1 c_wish u_above u_below u_full u_firsts u_freed u_whole)) dX8_give_108 rfl ht1 rfl ?_
  refine G_iconst 1 dX8_give_109 (by decide) ?_
  obtain rfl := os hf
  exact G_ireturn dX8_give_110 rfl
def f_X8_give_53 (N : Nat) (c_askers : Int32) (c_places : Int32) (c_seats : Nat → Int32) (c_wish : Nat → Int32) (c_told : Nat → Int32) (v1 : Int32) (v2 : Int32) (v3 : Int32) (s0 : Int32) : Option (Int32 × (Nat → Int32)) :=
    (if v3 = (-1 : Int32) then
      f_X8_give_95 N c_askers c_places c_seats c_wish c_told v1 v2 v3
    else
      (rdI 48 c_wish ((6 * v2) + v3)).bind fun t2 =>
      (if t2 = 0 then
        some ((-3 : Int32), c_told)
      else
        (f_X8_had N c_askers c_told v1 v3).bind fun r4 =>
        (rdI 6 c_seats v3).bind fun t6 =>
        (if (r4 - s0) < t6 then
          f_X8_give_95 N c_askers c_places c_seats c_wish c_told v1 v2 v3
        else
          some ((-3 : Int32), c_told))))
set_option maxHeartbeats 4000000 in
set_option maxRecDepth 100000 in
theorem g_X8_give_53 {κ : KC} {ω : KW} {A : Nat → Prop} {ad : Nat → Nat} {u_above : Int64} {u_below : Int64} {u_full : Int32} {u_firsts : Int32} {u_freed : Int32} {u_whole : Int64} {N : Nat} {c_askers : Int32} {c_places : Int32} {c_seats : Nat → Int32} {c_wish : Nat → Int32}  {res : Int32 × (Nat → Int32)} {c_told : Nat → Int32} {v1 : Int32} {v2 : Int32} {v3 : Int32} {s0 : Int32} (hf : f_X8_give_53 N c_askers c_places c_seats c_wish c_told v1 v2 v3 s0 = some res) : GG mu_X8_give κ ω A (QR κ ω A ad (some (.int res.1)) (w_X8_give c_askers c_places c_seats res.2 c_wish u_above u_below u_full u_firsts u_freed u_whole)) ad 0 0 53 (w_X8_give c_askers c_places c_seats c_told c_wish u_above u_below u_full u_firsts u_freed u_whole) [some (.ref 0), some (.int v1), some (.int v2), some (.int v3), none] [.int s0] := by
  refine G_istore dX8_give_53 (ltb rfl) ?_
  change GG _ _ _ _ _ _ _ _ _ _ [some (.ref 0), some (.int v1), some (.int v2), some (.int v3), some (.int s0)] _
  refine G_iload_n dX8_give_55 rfl rfl ?_
  refine G_iconst (-1 : Int32) dX8_give_56 (by decide) ?_
  refine G_icmp_eq 95 dX8_give_57 (by decide) (fun h1 => ?_) (fun h1 => ?_)
  · replace hf := ob_t h1 hf
    refine GG.sb (lv2 := [some (.ref 0), some (.int v1), some (.int v2), some (.int v3), none]) ?_ (lvS_v rfl (lvS_v rfl (lvS_v rfl (lvS_v rfl (lvS_n (lvS_e))))))
    exact g_X8_give_95 hf
  · replace hf := ob_f h1 hf
    refine G_aload_n dX8_give_60 rfl rfl ?_
    refine G_get (v := .ref 3) F_X8_13 dX8_give_61 rfl rfl ?_
    refine G_bipush 6 dX8_give_64 (by decide) ?_
    refine G_iload_n dX8_give_66 rfl rfl ?_
    refine G_imul dX8_give_67 ?_
    refine G_iload_n dX8_give_68 rfl rfl ?_
    refine G_iadd dX8_give_69 ?_
    obtain ⟨t2, ht2, hf⟩ := ob hf
    refine G_iald dX8_give_70 rfl ht2 ?_
    refine G_if_eq 92 dX8_give_71 (by decide) (fun h3 => ?_) (fun h3 => ?_)
    · replace hf := ob_t h3 hf
      refine G_bipush (-3 : Int32) dX8_give_92 (by decide) ?_
      obtain rfl := os hf
      exact G_ireturn dX8_give_94 rfl
    · replace hf := ob_f h3 hf
      refine G_aload_n dX8_give_74 rfl rfl ?_
      refine G_iload_n dX8_give_75 rfl rfl ?_
      refine G_iload_n dX8_give_76 rfl rfl ?_
      obtain ⟨r4, hc5, hf⟩ := ob hf
      refine G_callV (μ2 := mu_X8_had) (As := [.int v1, .int v3]) (w2 := (w_X8_give c_askers c_places c_seats c_told c_wish u_above u_below u_full u_firsts u_freed u_whole)) (wc := (w_X8_had c_askers c_told c_places u_above u_below u_full u_firsts u_freed u_whole)) (wc2 := (w_X8_had c_askers c_told c_places u_above u_below u_full u_firsts u_freed u_whole)) (rest := []) (rv := [.int r4]) [0, 2] [1, 3, 1000, 1001, 1002, 1003, 1004, 1005, 1006, 1007, 1008, 1009, 1010, 1011, 1012, 1013, 1014, 1015, 1016, 1017] [1, 3] [2, 0, 3, 1] (c_X8_had hc5) cw_X8_had m_X8_104 dX8_give_77 rfl ⟨leb rfl, leb rfl⟩ ⟨rfl, rfl⟩ rfl ⟨_, rfl, rfl⟩ (Fit.mk rfl rfl rfl) rfl (leb rfl) (ROsub.nil rfl rfl) rfl ?_
      change GG _ _ _ _ _ _ _ _ _ (w_X8_give c_askers c_places c_seats c_told c_wish u_above u_below u_full u_firsts u_freed u_whole) [some (.ref 0), some (.int v1), some (.int v2), some (.int v3), some (.int s0)] [.int r4]
      refine G_iload dX8_give_80 rfl ?_
      refine G_isub dX8_give_82 ?_
      refine G_aload_n dX8_give_83 rfl rfl ?_
      refine G_get (v := .ref 1) F_X8_7 dX8_give_84 rfl rfl ?_
      refine G_iload_n dX8_give_87 rfl rfl ?_
      obtain ⟨t6, ht6, hf⟩ := ob hf
      refine G_iald dX8_give_88 rfl ht6 ?_
      refine G_icmp_lt 95 dX8_give_89 (by decide) (fun h7 => ?_) (fun h7 => ?_)
      · replace hf := ob_t h7 hf
        refine GG.sb (lv2 := [some (.ref 0), some (.int v1), some (.int v2), some (.int v3), none]) ?_ (lvS_v rfl (lvS_v rfl (lvS_v rfl (lvS_v rfl (lvS_n (lvS_e))))))
        exact g_X8_give_95 hf
      · replace hf := ob_f h7 hf
        refine G_bipush (-3 : Int32) dX8_give_92 (by decide) ?_
        obtain rfl := os hf
        exact G_ireturn dX8_give_94 rfl
def f_X8_give_31 (N : Nat) (c_askers : Int32) (c_places : Int32) (c_seats : Nat → Int32) (c_wish : Nat → Int32) (c_told : Nat → Int32) (v1 : Int32) (v2 : Int32) (v3 : Int32) : Option (Int32 × (Nat → Int32)) :=
    (rdI 32 c_told ((8 * v1) + v2)).bind fun t1 =>
    (if t1 = (v3 + 1) then
      f_X8_give_53 N c_askers c_places c_seats c_wish c_told v1 v2 v3 1
    else
      f_X8_give_53 N c_askers c_places c_seats c_wish c_told v1 v2 v3 0)
set_option maxHeartbeats 4000000 in
set_option maxRecDepth 100000 in
theorem g_X8_give_31 {κ : KC} {ω : KW} {A : Nat → Prop} {ad : Nat → Nat} {u_above : Int64} {u_below : Int64} {u_full : Int32} {u_firsts : Int32} {u_freed : Int32} {u_whole : Int64} {N : Nat} {c_askers : Int32} {c_places : Int32} {c_seats : Nat → Int32} {c_wish : Nat → Int32}  {res : Int32 × (Nat → Int32)} {c_told : Nat → Int32} {v1 : Int32} {v2 : Int32} {v3 : Int32} (hf : f_X8_give_31 N c_askers c_places c_seats c_wish c_told v1 v2 v3 = some res) : GG mu_X8_give κ ω A (QR κ ω A ad (some (.int res.1)) (w_X8_give c_askers c_places c_seats res.2 c_wish u_above u_below u_full u_firsts u_freed u_whole)) ad 0 0 31 (w_X8_give c_askers c_places c_seats c_told c_wish u_above u_below u_full u_firsts u_freed u_whole) [some (.ref 0), some (.int v1), some (.int v2), some (.int v3), none] [] := by
  refine G_aload_n dX8_give_31 rfl rfl ?_
  refine G_get (v := .ref 2) F_X8_16 dX8_give_32 rfl rfl ?_
  refine G_bipush 8 dX8_give_35 (by decide) ?_
  refine G_iload_n dX8_give_37 rfl rfl ?_
  refine G_imul dX8_give_38 ?_
  refine G_iload_n dX8_give_39 rfl rfl ?_
  refine G_iadd dX8_give_40 ?_
  obtain ⟨t1, ht1, hf⟩ := ob hf
  refine G_iald dX8_give_41 rfl ht1 ?_
  refine G_iload_n dX8_give_42 rfl rfl ?_
  refine G_iconst 1 dX8_give_43 (by decide) ?_
  refine G_iadd dX8_give_44 ?_
  refine G_icmp_ne 52 dX8_give_45 (by decide) (fun h2 => ?_) (fun h2 => ?_)
  · replace hf := ob_f h2 hf
    refine G_iconst 0 dX8_give_52 (by decide) ?_
    exact g_X8_give_53 hf
  · replace hf := ob_t h2 hf
    refine G_iconst 1 dX8_give_48 (by decide) ?_
    refine G_goto 53 dX8_give_49 (by decide) ?_
    exact g_X8_give_53 hf
def f_X8_give (N : Nat) (c_askers : Int32) (c_places : Int32) (c_seats : Nat → Int32) (c_wish : Nat → Int32) (c_told : Nat → Int32) (a1 : Int32) (a2 : Int32) (a3 : Int32) : Option (Int32 × (Nat → Int32)) :=
  (f_X8_isTold N a1).bind fun r1 =>
  (if r1 = 0 then
    some ((-2 : Int32), c_told)
  else
    (f_X8_isAsker N c_askers a2).bind fun r4 =>
    (if r4 = 0 then
      some ((-2 : Int32), c_told)
    else
      (if a3 = (-1 : Int32) then
        f_X8_give_31 N c_askers c_places c_seats c_wish c_told a1 a2 a3
      else
        (f_X8_isPlace N c_places a3).bind fun r8 =>
        (if r8 = 0 then
          some ((-2 : Int32), c_told)
        else
          f_X8_give_31 N c_askers c_places c_seats c_wish c_told a1 a2 a3))))
set_option maxHeartbeats 4000000 in
set_option maxRecDepth 100000 in
theorem c_X8_give {N : Nat} {c_askers : Int32} {c_places : Int32} {c_seats : Nat → Int32} {c_wish : Nat → Int32} {c_told : Nat → Int32} {u_above : Int64} {u_below : Int64} {u_full : Int32} {u_firsts : Int32} {u_freed : Int32} {u_whole : Int64} {a1 : Int32} {a2 : Int32} {a3 : Int32} {res : Int32 × (Nat → Int32)} (hf : f_X8_give N c_askers c_places c_seats c_wish c_told a1 a2 a3 = some res) : Con mu_X8_give [.ref 0, .int a1, .int a2, .int a3] (w_X8_give c_askers c_places c_seats c_told c_wish u_above u_below u_full u_firsts u_freed u_whole) (some (.int res.1)) (w_X8_give c_askers c_places c_seats res.2 c_wish u_above u_below u_full u_firsts u_freed u_whole) := by
  refine Con.mk (show plainName RX8 = true by decide +kernel) (leb rfl) (fun κ ω A ad => ?_)
  change GG mu_X8_give κ ω A (QR κ ω A ad (some (.int res.1)) (w_X8_give c_askers c_places c_seats res.2 c_wish u_above u_below u_full u_firsts u_freed u_whole)) ad 0 0 0 (w_X8_give c_askers c_places c_seats c_told c_wish u_above u_below u_full u_firsts u_freed u_whole) [some (.ref 0), some (.int a1), some (.int a2), some (.int a3), none] []
  refine G_iload_n dX8_give_0 rfl rfl ?_
  obtain ⟨r1, hc2, hf⟩ := ob hf
  refine G_callS (μ2 := mu_X8_isTold) (As := [.int a1]) (w2 := (w_X8_give c_askers c_places c_seats c_told c_wish u_above u_below u_full u_firsts u_freed u_whole)) (wc := []) (wc2 := []) (rest := []) (rv := [.int r1]) [] [] [0, 1, 2, 3] [0, 1, 2, 3] (c_X8_isTold hc2) cw_X8_isTold m_X8_127 rfl dX8_give_1 rfl ⟨leb rfl, leb rfl⟩ ⟨rfl, rfl⟩ (Fit.mk rfl rfl rfl) rfl (leb rfl) (ROsub.nil rfl rfl) rfl ?_
  change GG _ _ _ _ _ _ _ _ _ (w_X8_give c_askers c_places c_seats c_told c_wish u_above u_below u_full u_firsts u_freed u_whole) [some (.ref 0), some (.int a1), some (.int a2), some (.int a3), none] [.int r1]
  refine G_if_eq 28 dX8_give_4 (by decide) (fun h3 => ?_) (fun h3 => ?_)
  · replace hf := ob_t h3 hf
    refine G_bipush (-2 : Int32) dX8_give_28 (by decide) ?_
    obtain rfl := os hf
    exact G_ireturn dX8_give_30 rfl
  · replace hf := ob_f h3 hf
    refine G_aload_n dX8_give_7 rfl rfl ?_
    refine G_iload_n dX8_give_8 rfl rfl ?_
    obtain ⟨r4, hc5, hf⟩ := ob hf
    refine G_callV (μ2 := mu_X8_isAsker) (As := [.int a2]) (w2 := (w_X8_give c_askers c_places c_seats c_told c_wish u_above u_below u_full u_firsts u_freed u_whole)) (wc := (w_X8_isAsker c_askers c_places u_above u_below u_full u_firsts u_freed u_whole)) (wc2 := (w_X8_isAsker c_askers c_places u_above u_below u_full u_firsts u_freed u_whole)) (rest := []) (rv := [.int r4]) [0] [1, 3, 2, 1000, 1001, 1002, 1003, 1004, 1005, 1006, 1007, 1008, 1009, 1010, 1011, 1012, 1013, 1014, 1015, 1016, 1017] [1, 2, 3] [3, 0, 1, 2] (c_X8_isAsker hc5) cw_X8_isAsker m_X8_108 dX8_give_9 rfl ⟨leb rfl, leb rfl⟩ ⟨rfl, rfl⟩ rfl ⟨_, rfl, rfl⟩ (Fit.mk rfl rfl rfl) rfl (leb rfl) (ROsub.nil rfl rfl) rfl ?_
    change GG _ _ _ _ _ _ _ _ _ (w_X8_give c_askers c_places c_seats c_told c_wish u_above u_below u_full u_firsts u_freed u_whole) [some (.ref 0), some (.int a1), some (.int a2), some (.int a3), none] [.int r4]
    refine G_if_eq 28 dX8_give_12 (by decide) (fun h6 => ?_) (fun h6 => ?_)
    · replace hf := ob_t h6 hf
      refine G_bipush (-2 : Int32) dX8_give_28 (by decide) ?_
      obtain rfl := os hf
      exact G_ireturn dX8_give_30 rfl
    · replace hf := ob_f h6 hf
      refine G_iload_n dX8_give_15 rfl rfl ?_
      refine G_iconst (-1 : Int32) dX8_give_16 (by decide) ?_
      refine G_icmp_eq 31 dX8_give_17 (by decide) (fun h7 => ?_) (fun h7 => ?_)
      · replace hf := ob_t h7 hf
        exact g_X8_give_31 hf
      · replace hf := ob_f h7 hf
        refine G_aload_n dX8_give_20 rfl rfl ?_
        refine G_iload_n dX8_give_21 rfl rfl ?_
        obtain ⟨r8, hc9, hf⟩ := ob hf
        refine G_callV (μ2 := mu_X8_isPlace) (As := [.int a3]) (w2 := (w_X8_give c_askers c_places c_seats c_told c_wish u_above u_below u_full u_firsts u_freed u_whole)) (wc := (w_X8_isPlace c_places c_askers u_above u_below u_full u_firsts u_freed u_whole)) (wc2 := (w_X8_isPlace c_places c_askers u_above u_below u_full u_firsts u_freed u_whole)) (rest := []) (rv := [.int r8]) [0] [1, 3, 2, 1000, 1001, 1002, 1003, 1004, 1005, 1006, 1007, 1008, 1009, 1010, 1011, 1012, 1013, 1014, 1015, 1016, 1017] [1, 2, 3] [3, 0, 1, 2] (c_X8_isPlace hc9) cw_X8_isPlace m_X8_100 dX8_give_22 rfl ⟨leb rfl, leb rfl⟩ ⟨rfl, rfl⟩ rfl ⟨_, rfl, rfl⟩ (Fit.mk rfl rfl rfl) rfl (leb rfl) (ROsub.nil rfl rfl) rfl ?_
        change GG _ _ _ _ _ _ _ _ _ (w_X8_give c_askers c_places c_seats c_told c_wish u_above u_below u_full u_firsts u_freed u_whole) [some (.ref 0), some (.int a1), some (.int a2), some (.int a3), none] [.int r8]
        refine G_if_ne 31 dX8_give_25 (by decide) (fun h10 => ?_) (fun h10 => ?_)
        · replace hf := ob_f h10 hf
          exact g_X8_give_31 hf
        · replace hf := ob_t h10 hf
          refine G_bipush (-2 : Int32) dX8_give_28 (by decide) ?_
          obtain rfl := os hf
          exact G_ireturn dX8_give_30 rfl
set_option maxRecDepth 20000 in
theorem dX8_findLeast_0 : decode cX8_findLeast 0 = .ok (.aload_n 0, 1) := by decide +kernel
set_option maxRecDepth 20000 in
theorem dX8_findLeast_1 : decode cX8_findLeast 1 = .ok (.invokevirtual 117, 3) := by decide +kernel
set_option maxRecDepth 20000 in
theorem dX8_findLeast_4 : decode cX8_findLeast 4 = .ok (.iconst 0, 1) := by decide +kernel
set_option maxRecDepth 20000 in
theorem dX8_findLeast_5 : decode cX8_findLeast 5 = .ok (.istore_n 1, 1) := by decide +kernel
set_option maxRecDepth 20000 in
theorem dX8_findLeast_6 : decode cX8_findLeast 6 = .ok (.iload_n 1, 1) := by decide +kernel
set_option maxRecDepth 20000 in
theorem dX8_findLeast_7 : decode cX8_findLeast 7 = .ok (.aload_n 0, 1) := by decide +kernel
set_option maxRecDepth 20000 in
theorem dX8_findLeast_8 : decode cX8_findLeast 8 = .ok (.getfield 114, 3) := by decide +kernel
set_option maxRecDepth 20000 in
theorem dX8_findLeast_11 : decode cX8_findLeast 11 = .ok (.if_icmp .gt 25, 3) := by decide +kernel
set_option maxRecDepth 20000 in
theorem dX8_findLeast_14 : decode cX8_findLeast 14 = .ok (.aload_n 0, 1) := by decide +kernel
set_option maxRecDepth 20000 in
theorem dX8_findLeast_15 : decode cX8_findLeast 15 = .ok (.getfield 33, 3) := by decide +kernel
set_option maxRecDepth 20000 in
theorem dX8_findLeast_18 : decode cX8_findLeast 18 = .ok (.sipush 4096, 3) := by decide +kernel
set_option maxRecDepth 20000 in
theorem dX8_findLeast_21 : decode cX8_findLeast 21 = .ok (.aload_n 0, 1) := by decide +kernel
set_option maxRecDepth 20000 in
theorem dX8_findLeast_22 : decode cX8_findLeast 22 = .ok (.getfield 89, 3) := by decide +kernel
set_option maxRecDepth 20000 in
theorem dX8_findLeast_25 : decode cX8_findLeast 25 = .ok (.imul, 1) := by decide +kernel
set_option maxRecDepth 20000 in
theorem dX8_findLeast_26 : decode cX8_findLeast 26 = .ok (.iload_n 1, 1) := by decide +kernel
set_option maxRecDepth 20000 in
theorem dX8_findLeast_27 : decode cX8_findLeast 27 = .ok (.iadd, 1) := by decide +kernel
set_option maxRecDepth 20000 in
theorem dX8_findLeast_28 : decode cX8_findLeast 28 = .ok (.lconst 0, 1) := by decide +kernel
set_option maxRecDepth 20000 in
theorem dX8_findLeast_29 : decode cX8_findLeast 29 = .ok (.lastore, 1) := by decide +kernel
set_option maxRecDepth 20000 in
theorem dX8_findLeast_30 : decode cX8_findLeast 30 = .ok (.iinc 1 1, 3) := by decide +kernel
set_option maxRecDepth 20000 in
theorem dX8_findLeast_33 : decode cX8_findLeast 33 = .ok (.goto (-27), 3) := by decide +kernel
set_option maxRecDepth 20000 in
theorem dX8_findLeast_36 : decode cX8_findLeast 36 = .ok (.aload_n 0, 1) := by decide +kernel
set_option maxRecDepth 20000 in
theorem dX8_findLeast_37 : decode cX8_findLeast 37 = .ok (.getfield 89, 3) := by decide +kernel
set_option maxRecDepth 20000 in
theorem dX8_findLeast_40 : decode cX8_findLeast 40 = .ok (.iconst 1, 1) := by decide +kernel
set_option maxRecDepth 20000 in
theorem dX8_findLeast_41 : decode cX8_findLeast 41 = .ok (.isub, 1) := by decide +kernel
set_option maxRecDepth 20000 in
theorem dX8_findLeast_42 : decode cX8_findLeast 42 = .ok (.istore_n 1, 1) := by decide +kernel
set_option maxRecDepth 20000 in
theorem dX8_findLeast_43 : decode cX8_findLeast 43 = .ok (.iload_n 1, 1) := by decide +kernel
set_option maxRecDepth 20000 in
theorem dX8_findLeast_44 : decode cX8_findLeast 44 = .ok (.ifCond .lt 149, 3) := by decide +kernel
set_option maxRecDepth 20000 in
theorem dX8_findLeast_47 : decode cX8_findLeast 47 = .ok (.iconst 0, 1) := by decide +kernel
set_option maxRecDepth 20000 in
theorem dX8_findLeast_48 : decode cX8_findLeast 48 = .ok (.istore_n 2, 1) := by decide +kernel
set_option maxRecDepth 20000 in
theorem dX8_findLeast_49 : decode cX8_findLeast 49 = .ok (.iload_n 2, 1) := by decide +kernel
set_option maxRecDepth 20000 in
theorem dX8_findLeast_50 : decode cX8_findLeast 50 = .ok (.aload_n 0, 1) := by decide +kernel
set_option maxRecDepth 20000 in
theorem dX8_findLeast_51 : decode cX8_findLeast 51 = .ok (.getfield 114, 3) := by decide +kernel
set_option maxRecDepth 20000 in
theorem dX8_findLeast_54 : decode cX8_findLeast 54 = .ok (.if_icmp .gt 133, 3) := by decide +kernel
set_option maxRecDepth 20000 in
theorem dX8_findLeast_57 : decode cX8_findLeast 57 = .ok (.ldc2_w 130, 3) := by decide +kernel
set_option maxRecDepth 20000 in
theorem dX8_findLeast_60 : decode cX8_findLeast 60 = .ok (.lstore_n 3, 1) := by decide +kernel
set_option maxRecDepth 20000 in
theorem dX8_findLeast_61 : decode cX8_findLeast 61 = .ok (.iconst 0, 1) := by decide +kernel
set_option maxRecDepth 20000 in
theorem dX8_findLeast_62 : decode cX8_findLeast 62 = .ok (.istore 5, 2) := by decide +kernel
set_option maxRecDepth 20000 in
theorem dX8_findLeast_64 : decode cX8_findLeast 64 = .ok (.iload 5, 2) := by decide +kernel
set_option maxRecDepth 20000 in
theorem dX8_findLeast_66 : decode cX8_findLeast 66 = .ok (.aload_n 0, 1) := by decide +kernel
set_option maxRecDepth 20000 in
theorem dX8_findLeast_67 : decode cX8_findLeast 67 = .ok (.getfield 97, 3) := by decide +kernel
set_option maxRecDepth 20000 in
theorem dX8_findLeast_70 : decode cX8_findLeast 70 = .ok (.if_icmp .gt 98, 3) := by decide +kernel
set_option maxRecDepth 20000 in
theorem dX8_findLeast_73 : decode cX8_findLeast 73 = .ok (.aload_n 0, 1) := by decide +kernel
set_option maxRecDepth 20000 in
theorem dX8_findLeast_74 : decode cX8_findLeast 74 = .ok (.getfield 30, 3) := by decide +kernel
set_option maxRecDepth 20000 in
theorem dX8_findLeast_77 : decode cX8_findLeast 77 = .ok (.bipush 7, 2) := by decide +kernel
set_option maxRecDepth 20000 in
theorem dX8_findLeast_79 : decode cX8_findLeast 79 = .ok (.iload_n 1, 1) := by decide +kernel
set_option maxRecDepth 20000 in
theorem dX8_findLeast_80 : decode cX8_findLeast 80 = .ok (.imul, 1) := by decide +kernel
set_option maxRecDepth 20000 in
theorem dX8_findLeast_81 : decode cX8_findLeast 81 = .ok (.iload 5, 2) := by decide +kernel
set_option maxRecDepth 20000 in
theorem dX8_findLeast_83 : decode cX8_findLeast 83 = .ok (.iadd, 1) := by decide +kernel
set_option maxRecDepth 20000 in
theorem dX8_findLeast_84 : decode cX8_findLeast 84 = .ok (.laload, 1) := by decide +kernel
set_option maxRecDepth 20000 in
theorem dX8_findLeast_85 : decode cX8_findLeast 85 = .ok (.ldc2_w 130, 3) := by decide +kernel
set_option maxRecDepth 20000 in
theorem dX8_findLeast_88 : decode cX8_findLeast 88 = .ok (.lcmp, 1) := by decide +kernel
set_option maxRecDepth 20000 in
theorem dX8_findLeast_89 : decode cX8_findLeast 89 = .ok (.ifCond .ne 7, 3) := by decide +kernel
set_option maxRecDepth 20000 in
theorem dX8_findLeast_92 : decode cX8_findLeast 92 = .ok (.iconst (-1), 1) := by decide +kernel
set_option maxRecDepth 20000 in
theorem dX8_findLeast_93 : decode cX8_findLeast 93 = .ok (.goto 11, 3) := by decide +kernel
set_option maxRecDepth 20000 in
theorem dX8_findLeast_96 : decode cX8_findLeast 96 = .ok (.aload_n 0, 1) := by decide +kernel
set_option maxRecDepth 20000 in
theorem dX8_findLeast_97 : decode cX8_findLeast 97 = .ok (.iload_n 1, 1) := by decide +kernel
set_option maxRecDepth 20000 in
theorem dX8_findLeast_98 : decode cX8_findLeast 98 = .ok (.iload 5, 2) := by decide +kernel
set_option maxRecDepth 20000 in
theorem dX8_findLeast_100 : decode cX8_findLeast 100 = .ok (.iload_n 2, 1) := by decide +kernel
set_option maxRecDepth 20000 in
theorem dX8_findLeast_101 : decode cX8_findLeast 101 = .ok (.invokevirtual 120, 3) := by decide +kernel
set_option maxRecDepth 20000 in
theorem dX8_findLeast_104 : decode cX8_findLeast 104 = .ok (.istore 6, 2) := by decide +kernel
set_option maxRecDepth 20000 in
theorem dX8_findLeast_106 : decode cX8_findLeast 106 = .ok (.iload 6, 2) := by decide +kernel
set_option maxRecDepth 20000 in
theorem dX8_findLeast_108 : decode cX8_findLeast 108 = .ok (.iconst (-1), 1) := by decide +kernel
set_option maxRecDepth 20000 in
theorem dX8_findLeast_109 : decode cX8_findLeast 109 = .ok (.if_icmp .ne 9, 3) := by decide +kernel
set_option maxRecDepth 20000 in
theorem dX8_findLeast_112 : decode cX8_findLeast 112 = .ok (.ldc2_w 130, 3) := by decide +kernel
set_option maxRecDepth 20000 in
theorem dX8_findLeast_115 : decode cX8_findLeast 115 = .ok (.goto 31, 3) := by decide +kernel
set_option maxRecDepth 20000 in
theorem dX8_findLeast_118 : decode cX8_findLeast 118 = .ok (.aload_n 0, 1) := by decide +kernel
set_option maxRecDepth 20000 in
theorem dX8_findLeast_119 : decode cX8_findLeast 119 = .ok (.getfield 30, 3) := by decide +kernel
set_option maxRecDepth 20000 in
theorem dX8_findLeast_122 : decode cX8_findLeast 122 = .ok (.bipush 7, 2) := by decide +kernel
set_option maxRecDepth 20000 in
theorem dX8_findLeast_124 : decode cX8_findLeast 124 = .ok (.iload_n 1, 1) := by decide +kernel
set_option maxRecDepth 20000 in
theorem dX8_findLeast_125 : decode cX8_findLeast 125 = .ok (.imul, 1) := by decide +kernel
set_option maxRecDepth 20000 in
theorem dX8_findLeast_126 : decode cX8_findLeast 126 = .ok (.iload 5, 2) := by decide +kernel
set_option maxRecDepth 20000 in
theorem dX8_findLeast_128 : decode cX8_findLeast 128 = .ok (.iadd, 1) := by decide +kernel
set_option maxRecDepth 20000 in
theorem dX8_findLeast_129 : decode cX8_findLeast 129 = .ok (.laload, 1) := by decide +kernel
set_option maxRecDepth 20000 in
theorem dX8_findLeast_130 : decode cX8_findLeast 130 = .ok (.aload_n 0, 1) := by decide +kernel
set_option maxRecDepth 20000 in
theorem dX8_findLeast_131 : decode cX8_findLeast 131 = .ok (.getfield 33, 3) := by decide +kernel
set_option maxRecDepth 20000 in
theorem dX8_findLeast_134 : decode cX8_findLeast 134 = .ok (.sipush 4096, 3) := by decide +kernel
set_option maxRecDepth 20000 in
theorem dX8_findLeast_137 : decode cX8_findLeast 137 = .ok (.iload_n 1, 1) := by decide +kernel
set_option maxRecDepth 20000 in
theorem dX8_findLeast_138 : decode cX8_findLeast 138 = .ok (.iconst 1, 1) := by decide +kernel
set_option maxRecDepth 20000 in
theorem dX8_findLeast_139 : decode cX8_findLeast 139 = .ok (.iadd, 1) := by decide +kernel
set_option maxRecDepth 20000 in
theorem dX8_findLeast_140 : decode cX8_findLeast 140 = .ok (.imul, 1) := by decide +kernel
set_option maxRecDepth 20000 in
theorem dX8_findLeast_141 : decode cX8_findLeast 141 = .ok (.iload 6, 2) := by decide +kernel
set_option maxRecDepth 20000 in
theorem dX8_findLeast_143 : decode cX8_findLeast 143 = .ok (.iadd, 1) := by decide +kernel
set_option maxRecDepth 20000 in
theorem dX8_findLeast_144 : decode cX8_findLeast 144 = .ok (.laload, 1) := by decide +kernel
set_option maxRecDepth 20000 in
theorem dX8_findLeast_145 : decode cX8_findLeast 145 = .ok (.ladd, 1) := by decide +kernel
set_option maxRecDepth 20000 in
theorem dX8_findLeast_146 : decode cX8_findLeast 146 = .ok (.lstore 7, 2) := by decide +kernel
set_option maxRecDepth 20000 in
theorem dX8_findLeast_148 : decode cX8_findLeast 148 = .ok (.lload 7, 2) := by decide +kernel
set_option maxRecDepth 20000 in
theorem dX8_findLeast_150 : decode cX8_findLeast 150 = .ok (.lload_n 3, 1) := by decide +kernel
set_option maxRecDepth 20000 in
theorem dX8_findLeast_151 : decode cX8_findLeast 151 = .ok (.lcmp, 1) := by decide +kernel
set_option maxRecDepth 20000 in
theorem dX8_findLeast_152 : decode cX8_findLeast 152 = .ok (.ifCond .ge 8, 3) := by decide +kernel
set_option maxRecDepth 20000 in
theorem dX8_findLeast_155 : decode cX8_findLeast 155 = .ok (.lload 7, 2) := by decide +kernel
set_option maxRecDepth 20000 in
theorem dX8_findLeast_157 : decode cX8_findLeast 157 = .ok (.goto 4, 3) := by decide +kernel
set_option maxRecDepth 20000 in
theorem dX8_findLeast_160 : decode cX8_findLeast 160 = .ok (.lload_n 3, 1) := by decide +kernel
set_option maxRecDepth 20000 in
theorem dX8_findLeast_161 : decode cX8_findLeast 161 = .ok (.lstore_n 3, 1) := by decide +kernel
set_option maxRecDepth 20000 in
theorem dX8_findLeast_162 : decode cX8_findLeast 162 = .ok (.iinc 5 1, 3) := by decide +kernel
set_option maxRecDepth 20000 in
theorem dX8_findLeast_165 : decode cX8_findLeast 165 = .ok (.goto (-101), 3) := by decide +kernel
set_option maxRecDepth 20000 in
theorem dX8_findLeast_168 : decode cX8_findLeast 168 = .ok (.aload_n 0, 1) := by decide +kernel
set_option maxRecDepth 20000 in
theorem dX8_findLeast_169 : decode cX8_findLeast 169 = .ok (.getfield 33, 3) := by decide +kernel
set_option maxRecDepth 20000 in
theorem dX8_findLeast_172 : decode cX8_findLeast 172 = .ok (.sipush 4096, 3) := by decide +kernel
set_option maxRecDepth 20000 in
theorem dX8_findLeast_175 : decode cX8_findLeast 175 = .ok (.iload_n 1, 1) := by decide +kernel
set_option maxRecDepth 20000 in
theorem dX8_findLeast_176 : decode cX8_findLeast 176 = .ok (.imul, 1) := by decide +kernel
set_option maxRecDepth 20000 in
theorem dX8_findLeast_177 : decode cX8_findLeast 177 = .ok (.iload_n 2, 1) := by decide +kernel
set_option maxRecDepth 20000 in
theorem dX8_findLeast_178 : decode cX8_findLeast 178 = .ok (.iadd, 1) := by decide +kernel
set_option maxRecDepth 20000 in
theorem dX8_findLeast_179 : decode cX8_findLeast 179 = .ok (.lload_n 3, 1) := by decide +kernel
set_option maxRecDepth 20000 in
theorem dX8_findLeast_180 : decode cX8_findLeast 180 = .ok (.lastore, 1) := by decide +kernel
set_option maxRecDepth 20000 in
theorem dX8_findLeast_181 : decode cX8_findLeast 181 = .ok (.iinc 2 1, 3) := by decide +kernel
set_option maxRecDepth 20000 in
theorem dX8_findLeast_184 : decode cX8_findLeast 184 = .ok (.goto (-135), 3) := by decide +kernel
set_option maxRecDepth 20000 in
theorem dX8_findLeast_187 : decode cX8_findLeast 187 = .ok (.iinc 1 (-1), 3) := by decide +kernel
set_option maxRecDepth 20000 in
theorem dX8_findLeast_190 : decode cX8_findLeast 190 = .ok (.goto (-147), 3) := by decide +kernel
set_option maxRecDepth 20000 in
theorem dX8_findLeast_193 : decode cX8_findLeast 193 = .ok (.aload_n 0, 1) := by decide +kernel
set_option maxRecDepth 20000 in
theorem dX8_findLeast_194 : decode cX8_findLeast 194 = .ok (.getfield 114, 3) := by decide +kernel
set_option maxRecDepth 20000 in
theorem dX8_findLeast_197 : decode cX8_findLeast 197 = .ok (.istore_n 1, 1) := by decide +kernel
set_option maxRecDepth 20000 in
theorem dX8_findLeast_198 : decode cX8_findLeast 198 = .ok (.iconst 0, 1) := by decide +kernel
set_option maxRecDepth 20000 in
theorem dX8_findLeast_199 : decode cX8_findLeast 199 = .ok (.istore_n 2, 1) := by decide +kernel
set_option maxRecDepth 20000 in
theorem dX8_findLeast_200 : decode cX8_findLeast 200 = .ok (.iload_n 2, 1) := by decide +kernel
set_option maxRecDepth 20000 in
theorem dX8_findLeast_201 : decode cX8_findLeast 201 = .ok (.aload_n 0, 1) := by decide +kernel
set_option maxRecDepth 20000 in
theorem dX8_findLeast_202 : decode cX8_findLeast 202 = .ok (.getfield 89, 3) := by decide +kernel
set_option maxRecDepth 20000 in
theorem dX8_findLeast_205 : decode cX8_findLeast 205 = .ok (.if_icmp .ge 130, 3) := by decide +kernel
set_option maxRecDepth 20000 in
theorem dX8_findLeast_208 : decode cX8_findLeast 208 = .ok (.iconst 0, 1) := by decide +kernel
set_option maxRecDepth 20000 in
theorem dX8_findLeast_209 : decode cX8_findLeast 209 = .ok (.istore_n 3, 1) := by decide +kernel
set_option maxRecDepth 20000 in
theorem dX8_findLeast_210 : decode cX8_findLeast 210 = .ok (.iconst 0, 1) := by decide +kernel
set_option maxRecDepth 20000 in
theorem dX8_findLeast_211 : decode cX8_findLeast 211 = .ok (.istore 4, 2) := by decide +kernel
set_option maxRecDepth 20000 in
theorem dX8_findLeast_213 : decode cX8_findLeast 213 = .ok (.iload 4, 2) := by decide +kernel
set_option maxRecDepth 20000 in
theorem dX8_findLeast_215 : decode cX8_findLeast 215 = .ok (.ifCond .ne 114, 3) := by decide +kernel
set_option maxRecDepth 20000 in
theorem dX8_findLeast_218 : decode cX8_findLeast 218 = .ok (.aload_n 0, 1) := by decide +kernel
set_option maxRecDepth 20000 in
theorem dX8_findLeast_219 : decode cX8_findLeast 219 = .ok (.getfield 30, 3) := by decide +kernel
set_option maxRecDepth 20000 in
theorem dX8_findLeast_222 : decode cX8_findLeast 222 = .ok (.bipush 7, 2) := by decide +kernel
set_option maxRecDepth 20000 in
theorem dX8_findLeast_224 : decode cX8_findLeast 224 = .ok (.iload_n 2, 1) := by decide +kernel
set_option maxRecDepth 20000 in
theorem dX8_findLeast_225 : decode cX8_findLeast 225 = .ok (.imul, 1) := by decide +kernel
set_option maxRecDepth 20000 in
theorem dX8_findLeast_226 : decode cX8_findLeast 226 = .ok (.iload_n 3, 1) := by decide +kernel
set_option maxRecDepth 20000 in
theorem dX8_findLeast_227 : decode cX8_findLeast 227 = .ok (.iadd, 1) := by decide +kernel
set_option maxRecDepth 20000 in
theorem dX8_findLeast_228 : decode cX8_findLeast 228 = .ok (.laload, 1) := by decide +kernel
set_option maxRecDepth 20000 in
theorem dX8_findLeast_229 : decode cX8_findLeast 229 = .ok (.ldc2_w 130, 3) := by decide +kernel
set_option maxRecDepth 20000 in
theorem dX8_findLeast_232 : decode cX8_findLeast 232 = .ok (.lcmp, 1) := by decide +kernel
set_option maxRecDepth 20000 in
theorem dX8_findLeast_233 : decode cX8_findLeast 233 = .ok (.ifCond .ne 7, 3) := by decide +kernel
set_option maxRecDepth 20000 in
theorem dX8_findLeast_236 : decode cX8_findLeast 236 = .ok (.iconst (-1), 1) := by decide +kernel
set_option maxRecDepth 20000 in
theorem dX8_findLeast_237 : decode cX8_findLeast 237 = .ok (.goto 10, 3) := by decide +kernel
set_option maxRecDepth 20000 in
theorem dX8_findLeast_240 : decode cX8_findLeast 240 = .ok (.aload_n 0, 1) := by decide +kernel
set_option maxRecDepth 20000 in
theorem dX8_findLeast_241 : decode cX8_findLeast 241 = .ok (.iload_n 2, 1) := by decide +kernel
set_option maxRecDepth 20000 in
theorem dX8_findLeast_242 : decode cX8_findLeast 242 = .ok (.iload_n 3, 1) := by decide +kernel
set_option maxRecDepth 20000 in
theorem dX8_findLeast_243 : decode cX8_findLeast 243 = .ok (.iload_n 1, 1) := by decide +kernel
set_option maxRecDepth 20000 in
theorem dX8_findLeast_244 : decode cX8_findLeast 244 = .ok (.invokevirtual 120, 3) := by decide +kernel
set_option maxRecDepth 20000 in
theorem dX8_findLeast_247 : decode cX8_findLeast 247 = .ok (.istore 5, 2) := by decide +kernel
set_option maxRecDepth 20000 in
theorem dX8_findLeast_249 : decode cX8_findLeast 249 = .ok (.iload 5, 2) := by decide +kernel
set_option maxRecDepth 20000 in
theorem dX8_findLeast_251 : decode cX8_findLeast 251 = .ok (.iconst (-1), 1) := by decide +kernel
set_option maxRecDepth 20000 in
theorem dX8_findLeast_252 : decode cX8_findLeast 252 = .ok (.if_icmp .eq 50, 3) := by decide +kernel
set_option maxRecDepth 20000 in
theorem dX8_findLeast_255 : decode cX8_findLeast 255 = .ok (.aload_n 0, 1) := by decide +kernel
set_option maxRecDepth 20000 in
theorem dX8_findLeast_256 : decode cX8_findLeast 256 = .ok (.getfield 30, 3) := by decide +kernel
set_option maxRecDepth 20000 in
theorem dX8_findLeast_259 : decode cX8_findLeast 259 = .ok (.bipush 7, 2) := by decide +kernel
set_option maxRecDepth 20000 in
theorem dX8_findLeast_261 : decode cX8_findLeast 261 = .ok (.iload_n 2, 1) := by decide +kernel
set_option maxRecDepth 20000 in
theorem dX8_findLeast_262 : decode cX8_findLeast 262 = .ok (.imul, 1) := by decide +kernel
set_option maxRecDepth 20000 in
theorem dX8_findLeast_263 : decode cX8_findLeast 263 = .ok (.iload_n 3, 1) := by decide +kernel
set_option maxRecDepth 20000 in
theorem dX8_findLeast_264 : decode cX8_findLeast 264 = .ok (.iadd, 1) := by decide +kernel
set_option maxRecDepth 20000 in
theorem dX8_findLeast_265 : decode cX8_findLeast 265 = .ok (.laload, 1) := by decide +kernel
set_option maxRecDepth 20000 in
theorem dX8_findLeast_266 : decode cX8_findLeast 266 = .ok (.aload_n 0, 1) := by decide +kernel
set_option maxRecDepth 20000 in
theorem dX8_findLeast_267 : decode cX8_findLeast 267 = .ok (.getfield 33, 3) := by decide +kernel
set_option maxRecDepth 20000 in
theorem dX8_findLeast_270 : decode cX8_findLeast 270 = .ok (.sipush 4096, 3) := by decide +kernel
set_option maxRecDepth 20000 in
theorem dX8_findLeast_273 : decode cX8_findLeast 273 = .ok (.iload_n 2, 1) := by decide +kernel
set_option maxRecDepth 20000 in
theorem dX8_findLeast_274 : decode cX8_findLeast 274 = .ok (.iconst 1, 1) := by decide +kernel
set_option maxRecDepth 20000 in
theorem dX8_findLeast_275 : decode cX8_findLeast 275 = .ok (.iadd, 1) := by decide +kernel
set_option maxRecDepth 20000 in
theorem dX8_findLeast_276 : decode cX8_findLeast 276 = .ok (.imul, 1) := by decide +kernel
set_option maxRecDepth 20000 in
theorem dX8_findLeast_277 : decode cX8_findLeast 277 = .ok (.iload 5, 2) := by decide +kernel
set_option maxRecDepth 20000 in
theorem dX8_findLeast_279 : decode cX8_findLeast 279 = .ok (.iadd, 1) := by decide +kernel
set_option maxRecDepth 20000 in
theorem dX8_findLeast_280 : decode cX8_findLeast 280 = .ok (.laload, 1) := by decide +kernel
set_option maxRecDepth 20000 in
theorem dX8_findLeast_281 : decode cX8_findLeast 281 = .ok (.ladd, 1) := by decide +kernel
set_option maxRecDepth 20000 in
theorem dX8_findLeast_282 : decode cX8_findLeast 282 = .ok (.aload_n 0, 1) := by decide +kernel
set_option maxRecDepth 20000 in
theorem dX8_findLeast_283 : decode cX8_findLeast 283 = .ok (.getfield 33, 3) := by decide +kernel
set_option maxRecDepth 20000 in
theorem dX8_findLeast_286 : decode cX8_findLeast 286 = .ok (.sipush 4096, 3) := by decide +kernel
set_option maxRecDepth 20000 in
theorem dX8_findLeast_289 : decode cX8_findLeast 289 = .ok (.iload_n 2, 1) := by decide +kernel
set_option maxRecDepth 20000 in
theorem dX8_findLeast_290 : decode cX8_findLeast 290 = .ok (.imul, 1) := by decide +kernel
set_option maxRecDepth 20000 in
theorem dX8_findLeast_291 : decode cX8_findLeast 291 = .ok (.iload_n 1, 1) := by decide +kernel
set_option maxRecDepth 20000 in
theorem dX8_findLeast_292 : decode cX8_findLeast 292 = .ok (.iadd, 1) := by decide +kernel
set_option maxRecDepth 20000 in
theorem dX8_findLeast_293 : decode cX8_findLeast 293 = .ok (.laload, 1) := by decide +kernel
set_option maxRecDepth 20000 in
theorem dX8_findLeast_294 : decode cX8_findLeast 294 = .ok (.lcmp, 1) := by decide +kernel
set_option maxRecDepth 20000 in
theorem dX8_findLeast_295 : decode cX8_findLeast 295 = .ok (.ifCond .ne 7, 3) := by decide +kernel
set_option maxRecDepth 20000 in
theorem dX8_findLeast_298 : decode cX8_findLeast 298 = .ok (.iconst 1, 1) := by decide +kernel
set_option maxRecDepth 20000 in
theorem dX8_findLeast_299 : decode cX8_findLeast 299 = .ok (.goto 4, 3) := by decide +kernel
set_option maxRecDepth 20000 in
theorem dX8_findLeast_302 : decode cX8_findLeast 302 = .ok (.iconst 0, 1) := by decide +kernel
set_option maxRecDepth 20000 in
theorem dX8_findLeast_303 : decode cX8_findLeast 303 = .ok (.istore 4, 2) := by decide +kernel
set_option maxRecDepth 20000 in
theorem dX8_findLeast_305 : decode cX8_findLeast 305 = .ok (.iload 4, 2) := by decide +kernel
set_option maxRecDepth 20000 in
theorem dX8_findLeast_307 : decode cX8_findLeast 307 = .ok (.ifCond .eq 16, 3) := by decide +kernel
set_option maxRecDepth 20000 in
theorem dX8_findLeast_310 : decode cX8_findLeast 310 = .ok (.aload_n 0, 1) := by decide +kernel
set_option maxRecDepth 20000 in
theorem dX8_findLeast_311 : decode cX8_findLeast 311 = .ok (.getfield 27, 3) := by decide +kernel
set_option maxRecDepth 20000 in
theorem dX8_findLeast_314 : decode cX8_findLeast 314 = .ok (.iload_n 2, 1) := by decide +kernel
set_option maxRecDepth 20000 in
theorem dX8_findLeast_315 : decode cX8_findLeast 315 = .ok (.iload_n 3, 1) := by decide +kernel
set_option maxRecDepth 20000 in
theorem dX8_findLeast_316 : decode cX8_findLeast 316 = .ok (.iastore, 1) := by decide +kernel
set_option maxRecDepth 20000 in
theorem dX8_findLeast_317 : decode cX8_findLeast 317 = .ok (.iload 5, 2) := by decide +kernel
set_option maxRecDepth 20000 in
theorem dX8_findLeast_319 : decode cX8_findLeast 319 = .ok (.istore_n 1, 1) := by decide +kernel
set_option maxRecDepth 20000 in
theorem dX8_findLeast_320 : decode cX8_findLeast 320 = .ok (.goto 6, 3) := by decide +kernel
set_option maxRecDepth 20000 in
theorem dX8_findLeast_323 : decode cX8_findLeast 323 = .ok (.iinc 3 1, 3) := by decide +kernel
set_option maxRecDepth 20000 in
theorem dX8_findLeast_326 : decode cX8_findLeast 326 = .ok (.goto (-113), 3) := by decide +kernel
set_option maxRecDepth 20000 in
theorem dX8_findLeast_329 : decode cX8_findLeast 329 = .ok (.iinc 2 1, 3) := by decide +kernel
set_option maxRecDepth 20000 in
theorem dX8_findLeast_332 : decode cX8_findLeast 332 = .ok (.goto (-132), 3) := by decide +kernel
set_option maxRecDepth 20000 in
theorem dX8_findLeast_335 : decode cX8_findLeast 335 = .ok (.aload_n 0, 1) := by decide +kernel
set_option maxRecDepth 20000 in
theorem dX8_findLeast_336 : decode cX8_findLeast 336 = .ok (.getfield 33, 3) := by decide +kernel
set_option maxRecDepth 20000 in
theorem dX8_findLeast_339 : decode cX8_findLeast 339 = .ok (.aload_n 0, 1) := by decide +kernel
set_option maxRecDepth 20000 in
theorem dX8_findLeast_340 : decode cX8_findLeast 340 = .ok (.getfield 114, 3) := by decide +kernel
set_option maxRecDepth 20000 in
theorem dX8_findLeast_343 : decode cX8_findLeast 343 = .ok (.laload, 1) := by decide +kernel
set_option maxRecDepth 20000 in
theorem dX8_findLeast_344 : decode cX8_findLeast 344 = .ok (.lreturn, 1) := by decide +kernel
def f_X8_findLeast_303 (N : Nat) (c_askers : Int32) (c_places : Int32) (c_cost : Nat → Int64) (c_seats : Nat → Int32) (c_wish : Nat → Int32) (k213 : Int32 → (Nat → Int32) → (Nat → Int64) → (Nat → Int32) → Int32 → Int32 → Int32 → Int32 → Option (Int64 × Int32 × (Nat → Int32) × (Nat → Int64) × (Nat → Int32))) (c_full : Int32) (c_found : Nat → Int32) (c_least : Nat → Int64) (c_weight : Nat → Int32) (v1 : Int32) (v2 : Int32) (v3 : Int32) (v5 : Int32) (s0 : Int32) : Option (Int64 × Int32 × (Nat → Int32) × (Nat → Int64) × (Nat → Int32)) :=
    (if s0 = 0 then
      k213 c_full c_found c_least c_weight v1 v2 (v3 + 1) s0
    else
      (wrI 8 c_found v2 v3).bind fun t2 =>
      k213 c_full t2 c_least c_weight v5 v2 v3 s0)
set_option maxHeartbeats 4000000 in
set_option maxRecDepth 100000 in
theorem g_X8_findLeast_303 {κ : KC} {ω : KW} {A : Nat → Prop} {ad : Nat → Nat} {u_above : Int64} {u_below : Int64} {u_firsts : Int32} {u_freed : Int32} {u_whole : Int64} {N : Nat} {c_askers : Int32} {c_places : Int32} {c_cost : Nat → Int64} {c_seats : Nat → Int32} {c_wish : Nat → Int32}  {k213 : Int32 → (Nat → Int32) → (Nat → Int64) → (Nat → Int32) → Int32 → Int32 → Int32 → Int32 → Option (Int64 × Int32 × (Nat → Int32) × (Nat → Int64) × (Nat → Int32))} {res : Int64 × Int32 × (Nat → Int32) × (Nat → Int64) × (Nat → Int32)} (hk213 : ∀ {c_full : Int32} {c_found : Nat → Int32} {c_least : Nat → Int64} {c_weight : Nat → Int32} {v1 : Int32} {v2 : Int32} {v3 : Int32} {v4 : Int32}, k213 c_full c_found c_least c_weight v1 v2 v3 v4 = some res → GG mu_X8_findLeast κ ω A (QR κ ω A ad (some (.long res.1)) (w_X8_findLeast c_askers c_places res.2.1 c_cost res.2.2.1 res.2.2.2.1 c_seats res.2.2.2.2 c_wish u_above u_below u_firsts u_freed u_whole)) ad 0 0 213 (w_X8_findLeast c_askers c_places c_full c_cost c_found c_least c_seats c_weight c_wish u_above u_below u_firsts u_freed u_whole) [some (.ref 0), some (.int v1), some (.int v2), some (.int v3), some (.int v4), none, none, none, none] []) {c_full : Int32} {c_found : Nat → Int32} {c_least : Nat → Int64} {c_weight : Nat → Int32} {v1 : Int32} {v2 : Int32} {v3 : Int32} {v5 : Int32} {s0 : Int32} (hf : f_X8_findLeast_303 N c_askers c_places c_cost c_seats c_wish k213 c_full c_found c_least c_weight v1 v2 v3 v5 s0 = some res) : GG mu_X8_findLeast κ ω A (QR κ ω A ad (some (.long res.1)) (w_X8_findLeast c_askers c_places res.2.1 c_cost res.2.2.1 res.2.2.2.1 c_seats res.2.2.2.2 c_wish u_above u_below u_firsts u_freed u_whole)) ad 0 0 303 (w_X8_findLeast c_askers c_places c_full c_cost c_found c_least c_seats c_weight c_wish u_above u_below u_firsts u_freed u_whole) [some (.ref 0), some (.int v1), some (.int v2), some (.int v3), none, some (.int v5), none, none, none] [.int s0] := by
  refine G_istore dX8_findLeast_303 (ltb rfl) ?_
  change GG _ _ _ _ _ _ _ _ _ _ [some (.ref 0), some (.int v1), some (.int v2), some (.int v3), some (.int s0), some (.int v5), none, none, none] _
  refine G_iload dX8_findLeast_305 rfl ?_
  refine G_if_eq 323 dX8_findLeast_307 (by decide) (fun h1 => ?_) (fun h1 => ?_)
  · replace hf := ob_t h1 hf
    refine G_iinc 1 dX8_findLeast_323 (by decide) rfl (ltb rfl) ?_
    change GG _ _ _ _ _ _ _ _ _ _ [some (.ref 0), some (.int v1), some (.int v2), some (.int (v3 + 1)), some (.int s0), some (.int v5), none, none, none] _
    refine G_goto 213 dX8_findLeast_326 (by decide) ?_
    refine GG.sb (lv2 := [some (.ref 0), some (.int v1), some (.int v2), some (.int (v3 + 1)), some (.int s0), none, none, none, none]) ?_ (lvS_v rfl (lvS_v rfl (lvS_v rfl (lvS_v rfl (lvS_v rfl (lvS_n (lvS_n (lvS_n (lvS_n (lvS_e))))))))))
    exact hk213 hf
  · replace hf := ob_f h1 hf
    refine G_aload_n dX8_findLeast_310 rfl rfl ?_
    refine G_get (v := .ref 2) F_X8_27 dX8_findLeast_311 rfl rfl ?_
    refine G_iload_n dX8_findLeast_314 rfl rfl ?_
    refine G_iload_n dX8_findLeast_315 rfl rfl ?_
    obtain ⟨t2, ht2, hf⟩ := ob hf
    refine G_iast (w2 := (w_X8_findLeast c_askers c_places c_full c_cost t2 c_least c_seats c_weight c_wish u_above u_below u_firsts u_freed u_whole)) dX8_findLeast_316 rfl ht2 rfl ?_
    refine G_iload dX8_findLeast_317 rfl ?_
    refine G_istore_n dX8_findLeast_319 rfl (ltb rfl) ?_
    change GG _ _ _ _ _ _ _ _ _ _ [some (.ref 0), some (.int v5), some (.int v2), some (.int v3), some (.int s0), some (.int v5), none, none, none] _
    refine G_goto 326 dX8_findLeast_320 (by decide) ?_
    refine G_goto 213 dX8_findLeast_326 (by decide) ?_
    refine GG.sb (lv2 := [some (.ref 0), some (.int v5), some (.int v2), some (.int v3), some (.int s0), none, none, none, none]) ?_ (lvS_v rfl (lvS_v rfl (lvS_v rfl (lvS_v rfl (lvS_v rfl (lvS_n (lvS_n (lvS_n (lvS_n (lvS_e))))))))))
    exact hk213 hf
def f_X8_findLeast_302 (N : Nat) (c_askers : Int32) (c_places : Int32) (c_cost : Nat → Int64) (c_seats : Nat → Int32) (c_wish : Nat → Int32) (k213 : Int32 → (Nat → Int32) → (Nat → Int64) → (Nat → Int32) → Int32 → Int32 → Int32 → Int32 → Option (Int64 × Int32 × (Nat → Int32) × (Nat → Int64) × (Nat → Int32))) (c_full : Int32) (c_found : Nat → Int32) (c_least : Nat → Int64) (c_weight : Nat → Int32) (v1 : Int32) (v2 : Int32) (v3 : Int32) (v5 : Int32) : Option (Int64 × Int32 × (Nat → Int32) × (Nat → Int64) × (Nat → Int32)) :=
    f_X8_findLeast_303 N c_askers c_places c_cost c_seats c_wish k213 c_full c_found c_least c_weight v1 v2 v3 v5 0
set_option maxHeartbeats 4000000 in
set_option maxRecDepth 100000 in
theorem g_X8_findLeast_302 {κ : KC} {ω : KW} {A : Nat → Prop} {ad : Nat → Nat} {u_above : Int64} {u_below : Int64} {u_firsts : Int32} {u_freed : Int32} {u_whole : Int64} {N : Nat} {c_askers : Int32} {c_places : Int32} {c_cost : Nat → Int64} {c_seats : Nat → Int32} {c_wish : Nat → Int32}  {k213 : Int32 → (Nat → Int32) → (Nat → Int64) → (Nat → Int32) → Int32 → Int32 → Int32 → Int32 → Option (Int64 × Int32 × (Nat → Int32) × (Nat → Int64) × (Nat → Int32))} {res : Int64 × Int32 × (Nat → Int32) × (Nat → Int64) × (Nat → Int32)} (hk213 : ∀ {c_full : Int32} {c_found : Nat → Int32} {c_least : Nat → Int64} {c_weight : Nat → Int32} {v1 : Int32} {v2 : Int32} {v3 : Int32} {v4 : Int32}, k213 c_full c_found c_least c_weight v1 v2 v3 v4 = some res → GG mu_X8_findLeast κ ω A (QR κ ω A ad (some (.long res.1)) (w_X8_findLeast c_askers c_places res.2.1 c_cost res.2.2.1 res.2.2.2.1 c_seats res.2.2.2.2 c_wish u_above u_below u_firsts u_freed u_whole)) ad 0 0 213 (w_X8_findLeast c_askers c_places c_full c_cost c_found c_least c_seats c_weight c_wish u_above u_below u_firsts u_freed u_whole) [some (.ref 0), some (.int v1), some (.int v2), some (.int v3), some (.int v4), none, none, none, none] []) {c_full : Int32} {c_found : Nat → Int32} {c_least : Nat → Int64} {c_weight : Nat → Int32} {v1 : Int32} {v2 : Int32} {v3 : Int32} {v5 : Int32} (hf : f_X8_findLeast_302 N c_askers c_places c_cost c_seats c_wish k213 c_full c_found c_least c_weight v1 v2 v3 v5 = some res) : GG mu_X8_findLeast κ ω A (QR κ ω A ad (some (.long res.1)) (w_X8_findLeast c_askers c_places res.2.1 c_cost res.2.2.1 res.2.2.2.1 c_seats res.2.2.2.2 c_wish u_above u_below u_firsts u_freed u_whole)) ad 0 0 302 (w_X8_findLeast c_askers c_places c_full c_cost c_found c_least c_seats c_weight c_wish u_above u_below u_firsts u_freed u_whole) [some (.ref 0), some (.int v1), some (.int v2), some (.int v3), none, some (.int v5), none, none, none] [] := by
  refine G_iconst 0 dX8_findLeast_302 (by decide) ?_
  exact g_X8_findLeast_303 hk213 hf
def f_X8_findLeast_247 (N : Nat) (c_askers : Int32) (c_places : Int32) (c_cost : Nat → Int64) (c_seats : Nat → Int32) (c_wish : Nat → Int32) (k213 : Int32 → (Nat → Int32) → (Nat → Int64) → (Nat → Int32) → Int32 → Int32 → Int32 → Int32 → Option (Int64 × Int32 × (Nat → Int32) × (Nat → Int64) × (Nat → Int32))) (c_full : Int32) (c_found : Nat → Int32) (c_least : Nat → Int64) (c_weight : Nat → Int32) (v1 : Int32) (v2 : Int32) (v3 : Int32) (s0 : Int32) : Option (Int64 × Int32 × (Nat → Int32) × (Nat → Int64) × (Nat → Int32)) :=
    (if s0 = (-1 : Int32) then
      f_X8_findLeast_302 N c_askers c_places c_cost c_seats c_wish k213 c_full c_found c_least c_weight v1 v2 v3 s0
    else
      (rdL 56 c_cost ((7 * v2) + v3)).bind fun t2 =>
      (rdL 36864 c_least ((4096 * (v2 + 1)) + s0)).bind fun t3 =>
      (rdL 36864 c_least ((4096 * v2) + v1)).bind fun t4 =>
      (if (t2 + t3) = t4 then
        f_X8_findLeast_303 N c_askers c_places c_cost c_seats c_wish k213 c_full c_found c_least c_weight v1 v2 v3 s0 1
      else
        f_X8_findLeast_302 N c_askers c_places c_cost c_seats c_wish k213 c_full c_found c_least c_weight v1 v2 v3 s0))
set_option maxHeartbeats 4000000 in
set_option maxRecDepth 100000 in
theorem g_X8_findLeast_247 {κ : KC} {ω : KW} {A : Nat → Prop} {ad : Nat → Nat} {u_above : Int64} {u_below : Int64} {u_firsts : Int32} {u_freed : Int32} {u_whole : Int64} {N : Nat} {c_askers : Int32} {c_places : Int32} {c_cost : Nat → Int64} {c_seats : Nat → Int32} {c_wish : Nat → Int32}  {k213 : Int32 → (Nat → Int32) → (Nat → Int64) → (Nat → Int32) → Int32 → Int32 → Int32 → Int32 → Option (Int64 × Int32 × (Nat → Int32) × (Nat → Int64) × (Nat → Int32))} {res : Int64 × Int32 × (Nat → Int32) × (Nat → Int64) × (Nat → Int32)} (hk213 : ∀ {c_full : Int32} {c_found : Nat → Int32} {c_least : Nat → Int64} {c_weight : Nat → Int32} {v1 : Int32} {v2 : Int32} {v3 : Int32} {v4 : Int32}, k213 c_full c_found c_least c_weight v1 v2 v3 v4 = some res → GG mu_X8_findLeast κ ω A (QR κ ω A ad (some (.long res.1)) (w_X8_findLeast c_askers c_places res.2.1 c_cost res.2.2.1 res.2.2.2.1 c_seats res.2.2.2.2 c_wish u_above u_below u_firsts u_freed u_whole)) ad 0 0 213 (w_X8_findLeast c_askers c_places c_full c_cost c_found c_least c_seats c_weight c_wish u_above u_below u_firsts u_freed u_whole) [some (.ref 0), some (.int v1), some (.int v2), some (.int v3), some (.int v4), none, none, none, none] []) {c_full : Int32} {c_found : Nat → Int32} {c_least : Nat → Int64} {c_weight : Nat → Int32} {v1 : Int32} {v2 : Int32} {v3 : Int32} {s0 : Int32} (hf : f_X8_findLeast_247 N c_askers c_places c_cost c_seats c_wish k213 c_full c_found c_least c_weight v1 v2 v3 s0 = some res) : GG mu_X8_findLeast κ ω A (QR κ ω A ad (some (.long res.1)) (w_X8_findLeast c_askers c_places res.2.1 c_cost res.2.2.1 res.2.2.2.1 c_seats res.2.2.2.2 c_wish u_above u_below u_firsts u_freed u_whole)) ad 0 0 247 (w_X8_findLeast c_askers c_places c_full c_cost c_found c_least c_seats c_weight c_wish u_above u_below u_firsts u_freed u_whole) [some (.ref 0), some (.int v1), some (.int v2), some (.int v3), none, none, none, none, none] [.int s0] := by
  refine G_istore dX8_findLeast_247 (ltb rfl) ?_
  change GG _ _ _ _ _ _ _ _ _ _ [some (.ref 0), some (.int v1), some (.int v2), some (.int v3), none, some (.int s0), none, none, none] _
  refine G_iload dX8_findLeast_249 rfl ?_
  refine G_iconst (-1 : Int32) dX8_findLeast_251 (by decide) ?_
  refine G_icmp_eq 302 dX8_findLeast_252 (by decide) (fun h1 => ?_) (fun h1 => ?_)
  · replace hf := ob_t h1 hf
    exact g_X8_findLeast_302 hk213 hf
  · replace hf := ob_f h1 hf
    refine G_aload_n dX8_findLeast_255 rfl rfl ?_
    refine G_get (v := .ref 1) F_X8_30 dX8_findLeast_256 rfl rfl ?_
    refine G_bipush 7 dX8_findLeast_259 (by decide) ?_
    refine G_iload_n dX8_findLeast_261 rfl rfl ?_
    refine G_imul dX8_findLeast_262 ?_
    refine G_iload_n dX8_findLeast_263 rfl rfl ?_
    refine G_iadd dX8_findLeast_264 ?_
    obtain ⟨t2, ht2, hf⟩ := ob hf
    refine G_lald dX8_findLeast_265 rfl ht2 ?_
    refine G_aload_n dX8_findLeast_266 rfl rfl ?_
    refine G_get (v := .ref 3) F_X8_33 dX8_findLeast_267 rfl rfl ?_
    refine G_sipush 4096 dX8_findLeast_270 (by decide) ?_
    refine G_iload_n dX8_findLeast_273 rfl rfl ?_
    refine G_iconst 1 dX8_findLeast_274 (by decide) ?_
    refine G_iadd dX8_findLeast_275 ?_
    refine G_imul dX8_findLeast_276 ?_
    refine G_iload dX8_findLeast_277 rfl ?_
    refine G_iadd dX8_findLeast_279 ?_
    obtain ⟨t3, ht3, hf⟩ := ob hf
    refine G_lald dX8_findLeast_280 rfl ht3 ?_
    refine G_ladd dX8_findLeast_281 ?_
    refine G_aload_n dX8_findLeast_282 rfl rfl ?_
    refine G_get (v := .ref 3) F_X8_33 dX8_findLeast_283 rfl rfl ?_
    refine G_sipush 4096 dX8_findLeast_286 (by decide) ?_
    refine G_iload_n dX8_findLeast_289 rfl rfl ?_
    refine G_imul dX8_findLeast_290 ?_
    refine G_iload_n dX8_findLeast_291 rfl rfl ?_
    refine G_iadd dX8_findLeast_292 ?_
    obtain ⟨t4, ht4, hf⟩ := ob hf
    refine G_lald dX8_findLeast_293 rfl ht4 ?_
    refine G_lcmp_ne 302 dX8_findLeast_294 dX8_findLeast_295 (by decide) (fun h5 => ?_) (fun h5 => ?_)
    · replace hf := ob_f h5 hf
      exact g_X8_findLeast_302 hk213 hf
    · replace hf := ob_t h5 hf
      refine G_iconst 1 dX8_findLeast_298 (by decide) ?_
      refine G_goto 303 dX8_findLeast_299 (by decide) ?_
      exact g_X8_findLeast_303 hk213 hf
def f_X8_findLeast_213 (N : Nat) (c_askers : Int32) (c_places : Int32) (c_cost : Nat → Int64) (c_seats : Nat → Int32) (c_wish : Nat → Int32) (k200 : Int32 → (Nat → Int32) → (Nat → Int64) → (Nat → Int32) → Int32 → Int32 → Option (Int64 × Int32 × (Nat → Int32) × (Nat → Int64) × (Nat → Int32))) : Nat → Int32 → (Nat → Int32) → (Nat → Int64) → (Nat → Int32) → Int32 → Int32 → Int32 → Int32 → Option (Int64 × Int32 × (Nat → Int32) × (Nat → Int64) × (Nat → Int32))
  | 0, _, _, _, _, _, _, _, _ => none
  | n + 1, c_full, c_found, c_least, c_weight, v1, v2, v3, v4 =>
    (if v4 = 0 then
      (rdL 56 c_cost ((7 * v2) + v3)).bind fun t2 =>
      (if t2 = 1000000000000000000 then
        f_X8_findLeast_247 N c_askers c_places c_cost c_seats c_wish (f_X8_findLeast_213 N c_askers c_places c_cost c_seats c_wish k200 n) c_full c_found c_least c_weight v1 v2 v3 (-1 : Int32)
      else
        (f_X8_takes N c_places c_seats c_weight c_wish v2 v3 v1).bind fun r4 =>
        f_X8_findLeast_247 N c_askers c_places c_cost c_seats c_wish (f_X8_findLeast_213 N c_askers c_places c_cost c_seats c_wish k200 n) c_full c_found c_least c_weight v1 v2 v3 r4)
    else
      k200 c_full c_found c_least c_weight v1 (v2 + 1))
set_option maxHeartbeats 4000000 in
set_option maxRecDepth 100000 in
theorem g_X8_findLeast_213 {κ : KC} {ω : KW} {A : Nat → Prop} {ad : Nat → Nat} {u_above : Int64} {u_below : Int64} {u_firsts : Int32} {u_freed : Int32} {u_whole : Int64} {N : Nat} {c_askers : Int32} {c_places : Int32} {c_cost : Nat → Int64} {c_seats : Nat → Int32} {c_wish : Nat → Int32}  {k200 : Int32 → (Nat → Int32) → (Nat → Int64) → (Nat → Int32) → Int32 → Int32 → Option (Int64 × Int32 × (Nat → Int32) × (Nat → Int64) × (Nat → Int32))} {res : Int64 × Int32 × (Nat → Int32) × (Nat → Int64) × (Nat → Int32)} (hk200 : ∀ {c_full : Int32} {c_found : Nat → Int32} {c_least : Nat → Int64} {c_weight : Nat → Int32} {v1 : Int32} {v2 : Int32}, k200 c_full c_found c_least c_weight v1 v2 = some res → GG mu_X8_findLeast κ ω A (QR κ ω A ad (some (.long res.1)) (w_X8_findLeast c_askers c_places res.2.1 c_cost res.2.2.1 res.2.2.2.1 c_seats res.2.2.2.2 c_wish u_above u_below u_firsts u_freed u_whole)) ad 0 0 200 (w_X8_findLeast c_askers c_places c_full c_cost c_found c_least c_seats c_weight c_wish u_above u_below u_firsts u_freed u_whole) [some (.ref 0), some (.int v1), some (.int v2), none, none, none, none, none, none] []) : ∀ (n : Nat) {c_full : Int32} {c_found : Nat → Int32} {c_least : Nat → Int64} {c_weight : Nat → Int32} {v1 : Int32} {v2 : Int32} {v3 : Int32} {v4 : Int32}, f_X8_findLeast_213 N c_askers c_places c_cost c_seats c_wish k200 n c_full c_found c_least c_weight v1 v2 v3 v4 = some res → GG mu_X8_findLeast κ ω A (QR κ ω A ad (some (.long res.1)) (w_X8_findLeast c_askers c_places res.2.1 c_cost res.2.2.1 res.2.2.2.1 c_seats res.2.2.2.2 c_wish u_above u_below u_firsts u_freed u_whole)) ad 0 0 213 (w_X8_findLeast c_askers c_places c_full c_cost c_found c_least c_seats c_weight c_wish u_above u_below u_firsts u_freed u_whole) [some (.ref 0), some (.int v1), some (.int v2), some (.int v3), some (.int v4), none, none, none, none] [] := by
  intro n
  induction n with
  | zero => intro c_full c_found c_least c_weight v1 v2 v3 v4 hf; exact ob_0 hf
  | succ n ih =>
    intro c_full c_found c_least c_weight v1 v2 v3 v4 hf
    refine G_iload dX8_findLeast_213 rfl ?_
    refine G_if_ne 329 dX8_findLeast_215 (by decide) (fun h1 => ?_) (fun h1 => ?_)
    · replace hf := ob_f h1 hf
      refine G_iinc 1 dX8_findLeast_329 (by decide) rfl (ltb rfl) ?_
      change GG _ _ _ _ _ _ _ _ _ _ [some (.ref 0), some (.int v1), some (.int (v2 + 1)), some (.int v3), some (.int v4), none, none, none, none] _
      refine G_goto 200 dX8_findLeast_332 (by decide) ?_
      refine GG.sb (lv2 := [some (.ref 0), some (.int v1), some (.int (v2 + 1)), none, none, none, none, none, none]) ?_ (lvS_v rfl (lvS_v rfl (lvS_v rfl (lvS_n (lvS_n (lvS_n (lvS_n (lvS_n (lvS_n (lvS_e))))))))))
      exact hk200 hf
    · replace hf := ob_t h1 hf
      refine G_aload_n dX8_findLeast_218 rfl rfl ?_
      refine G_get (v := .ref 1) F_X8_30 dX8_findLeast_219 rfl rfl ?_
      refine G_bipush 7 dX8_findLeast_222 (by decide) ?_
      refine G_iload_n dX8_findLeast_224 rfl rfl ?_
      refine G_imul dX8_findLeast_225 ?_
      refine G_iload_n dX8_findLeast_226 rfl rfl ?_
      refine G_iadd dX8_findLeast_227 ?_
      obtain ⟨t2, ht2, hf⟩ := ob hf
      refine G_lald dX8_findLeast_228 rfl ht2 ?_
      refine G_ldc2 (v := 1000000000000000000) dX8_findLeast_229 k_X8_130 ?_
      refine G_lcmp_ne 240 dX8_findLeast_232 dX8_findLeast_233 (by decide) (fun h3 => ?_) (fun h3 => ?_)
      · replace hf := ob_f h3 hf
        refine G_aload_n dX8_findLeast_240 rfl rfl ?_
        refine G_iload_n dX8_findLeast_241 rfl rfl ?_
        refine G_iload_n dX8_findLeast_242 rfl rfl ?_
        refine G_iload_n dX8_findLeast_243 rfl rfl ?_
        obtain ⟨r4, hc5, hf⟩ := ob hf
        refine G_callV (μ2 := mu_X8_takes) (As := [.int v2, .int v3, .int v1]) (w2 := (w_X8_findLeast c_askers c_places c_full c_cost c_found c_least c_seats c_weight c_wish u_above u_below u_firsts u_freed u_whole)) (wc := (w_X8_takes c_places c_seats c_weight c_wish c_askers u_above u_below c_full u_firsts u_freed u_whole)) (wc2 := (w_X8_takes c_places c_seats c_weight c_wish c_askers u_above u_below c_full u_firsts u_freed u_whole)) (rest := []) (rv := [.int r4]) [0, 4, 5, 6] [1000, 1001, 2, 1, 3, 1002, 1003, 1004, 1005, 1006, 1007, 1008, 1009, 1010, 1011, 1012, 1013, 1014] [1, 2, 3] [3, 0, 1, 2, 4, 5, 6] (c_X8_takes hc5) cw_X8_takes m_X8_120 dX8_findLeast_244 rfl ⟨leb rfl, leb rfl⟩ ⟨rfl, rfl⟩ rfl ⟨_, rfl, rfl⟩ (Fit.mk rfl rfl rfl) rfl (leb rfl) (ROsub.nil rfl rfl) rfl ?_
        change GG _ _ _ _ _ _ _ _ _ (w_X8_findLeast c_askers c_places c_full c_cost c_found c_least c_seats c_weight c_wish u_above u_below u_firsts u_freed u_whole) [some (.ref 0), some (.int v1), some (.int v2), some (.int v3), some (.int v4), none, none, none, none] [.int r4]
        refine GG.sb (lv2 := [some (.ref 0), some (.int v1), some (.int v2), some (.int v3), none, none, none, none, none]) ?_ (lvS_v rfl (lvS_v rfl (lvS_v rfl (lvS_v rfl (lvS_n (lvS_n (lvS_n (lvS_n (lvS_n (lvS_e))))))))))
        exact g_X8_findLeast_247 ih hf
      · replace hf := ob_t h3 hf
        refine G_iconst (-1 : Int32) dX8_findLeast_236 (by decide) ?_
        refine G_goto 247 dX8_findLeast_237 (by decide) ?_
        refine GG.sb (lv2 := [some (.ref 0), some (.int v1), some (.int v2), some (.int v3), none, none, none, none, none]) ?_ (lvS_v rfl (lvS_v rfl (lvS_v rfl (lvS_v rfl (lvS_n (lvS_n (lvS_n (lvS_n (lvS_n (lvS_e))))))))))
        exact g_X8_findLeast_247 ih hf
def f_X8_findLeast_200 (N : Nat) (c_askers : Int32) (c_places : Int32) (c_cost : Nat → Int64) (c_seats : Nat → Int32) (c_wish : Nat → Int32) : Nat → Int32 → (Nat → Int32) → (Nat → Int64) → (Nat → Int32) → Int32 → Int32 → Option (Int64 × Int32 × (Nat → Int32) × (Nat → Int64) × (Nat → Int32))
  | 0, _, _, _, _, _, _ => none
  | n + 1, c_full, c_found, c_least, c_weight, v1, v2 =>
    (if c_askers ≤ v2 then
      (rdL 36864 c_least c_full).bind fun t2 =>
      some (t2, c_full, c_found, c_least, c_weight)
    else
      f_X8_findLeast_213 N c_askers c_places c_cost c_seats c_wish (f_X8_findLeast_200 N c_askers c_places c_cost c_seats c_wish n) N c_full c_found c_least c_weight v1 v2 0 0)
set_option maxHeartbeats 4000000 in
set_option maxRecDepth 100000 in
theorem g_X8_findLeast_200 {κ : KC} {ω : KW} {A : Nat → Prop} {ad : Nat → Nat} {u_above : Int64} {u_below : Int64} {u_firsts : Int32} {u_freed : Int32} {u_whole : Int64} {N : Nat} {c_askers : Int32} {c_places : Int32} {c_cost : Nat → Int64} {c_seats : Nat → Int32} {c_wish : Nat → Int32}  {res : Int64 × Int32 × (Nat → Int32) × (Nat → Int64) × (Nat → Int32)} : ∀ (n : Nat) {c_full : Int32} {c_found : Nat → Int32} {c_least : Nat → Int64} {c_weight : Nat → Int32} {v1 : Int32} {v2 : Int32}, f_X8_findLeast_200 N c_askers c_places c_cost c_seats c_wish n c_full c_found c_least c_weight v1 v2 = some res → GG mu_X8_findLeast κ ω A (QR κ ω A ad (some (.long res.1)) (w_X8_findLeast c_askers c_places res.2.1 c_cost res.2.2.1 res.2.2.2.1 c_seats res.2.2.2.2 c_wish u_above u_below u_firsts u_freed u_whole)) ad 0 0 200 (w_X8_findLeast c_askers c_places c_full c_cost c_found c_least c_seats c_weight c_wish u_above u_below u_firsts u_freed u_whole) [some (.ref 0), some (.int v1), some (.int v2), none, none, none, none, none, none] [] := by
  intro n
  induction n with
  | zero => intro c_full c_found c_least c_weight v1 v2 hf; exact ob_0 hf
  | succ n ih =>
    intro c_full c_found c_least c_weight v1 v2 hf
    refine G_iload_n dX8_findLeast_200 rfl rfl ?_
    refine G_aload_n dX8_findLeast_201 rfl rfl ?_
    refine G_get (v := .int c_askers) F_X8_89 dX8_findLeast_202 rfl rfl ?_
    refine G_icmp_ge 335 dX8_findLeast_205 (by decide) (fun h1 => ?_) (fun h1 => ?_)
    · replace hf := ob_t h1 hf
      refine G_aload_n dX8_findLeast_335 rfl rfl ?_
      refine G_get (v := .ref 3) F_X8_33 dX8_findLeast_336 rfl rfl ?_
      refine G_aload_n dX8_findLeast_339 rfl rfl ?_
      refine G_get (v := .int c_full) F_X8_114 dX8_findLeast_340 rfl rfl ?_
      obtain ⟨t2, ht2, hf⟩ := ob hf
      refine G_lald dX8_findLeast_343 rfl ht2 ?_
      obtain rfl := os hf
      exact G_lreturn dX8_findLeast_344 rfl
    · replace hf := ob_f h1 hf
      refine G_iconst 0 dX8_findLeast_208 (by decide) ?_
      refine G_istore_n dX8_findLeast_209 rfl (ltb rfl) ?_
      change GG _ _ _ _ _ _ _ _ _ _ [some (.ref 0), some (.int v1), some (.int v2), some (.int 0), none, none, none, none, none] _
      refine G_iconst 0 dX8_findLeast_210 (by decide) ?_
      refine G_istore dX8_findLeast_211 (ltb rfl) ?_
      change GG _ _ _ _ _ _ _ _ _ _ [some (.ref 0), some (.int v1), some (.int v2), some (.int 0), some (.int 0), none, none, none, none] _
      exact g_X8_findLeast_213 ih N hf
def f_X8_findLeast_146 (N : Nat) (c_askers : Int32) (c_places : Int32) (c_cost : Nat → Int64) (c_seats : Nat → Int32) (c_wish : Nat → Int32) (k64 : Int32 → (Nat → Int32) → (Nat → Int64) → (Nat → Int32) → Int32 → Int32 → Int64 → Int32 → Option (Int64 × Int32 × (Nat → Int32) × (Nat → Int64) × (Nat → Int32))) (c_full : Int32) (c_found : Nat → Int32) (c_least : Nat → Int64) (c_weight : Nat → Int32) (v1 : Int32) (v2 : Int32) (v3 : Int64) (v5 : Int32) (s0 : Int64) : Option (Int64 × Int32 × (Nat → Int32) × (Nat → Int64) × (Nat → Int32)) :=
    (if v3 ≤ s0 then
      k64 c_full c_found c_least c_weight v1 v2 v3 (v5 + 1)
    else
      k64 c_full c_found c_least c_weight v1 v2 s0 (v5 + 1))
set_option maxHeartbeats 4000000 in
set_option maxRecDepth 100000 in
theorem g_X8_findLeast_146 {κ : KC} {ω : KW} {A : Nat → Prop} {ad : Nat → Nat} {u_above : Int64} {u_below : Int64} {u_firsts : Int32} {u_freed : Int32} {u_whole : Int64} {N : Nat} {c_askers : Int32} {c_places : Int32} {c_cost : Nat → Int64} {c_seats : Nat → Int32} {c_wish : Nat → Int32}  {k64 : Int32 → (Nat → Int32) → (Nat → Int64) → (Nat → Int32) → Int32 → Int32 → Int64 → Int32 → Option (Int64 × Int32 × (Nat → Int32) × (Nat → Int64) × (Nat → Int32))} {res : Int64 × Int32 × (Nat → Int32) × (Nat → Int64) × (Nat → Int32)} (hk64 : ∀ {c_full : Int32} {c_found : Nat → Int32} {c_least : Nat → Int64} {c_weight : Nat → Int32} {v1 : Int32} {v2 : Int32} {v3 : Int64} {v5 : Int32}, k64 c_full c_found c_least c_weight v1 v2 v3 v5 = some res → GG mu_X8_findLeast κ ω A (QR κ ω A ad (some (.long res.1)) (w_X8_findLeast c_askers c_places res.2.1 c_cost res.2.2.1 res.2.2.2.1 c_seats res.2.2.2.2 c_wish u_above u_below u_firsts u_freed u_whole)) ad 0 0 64 (w_X8_findLeast c_askers c_places c_full c_cost c_found c_least c_seats c_weight c_wish u_above u_below u_firsts u_freed u_whole) [some (.ref 0), some (.int v1), some (.int v2), some (.long v3), none, some (.int v5), none, none, none] []) {c_full : Int32} {c_found : Nat → Int32} {c_least : Nat → Int64} {c_weight : Nat → Int32} {v1 : Int32} {v2 : Int32} {v3 : Int64} {v5 : Int32} {s0 : Int64} (hf : f_X8_findLeast_146 N c_askers c_places c_cost c_seats c_wish k64 c_full c_found c_least c_weight v1 v2 v3 v5 s0 = some res) : GG mu_X8_findLeast κ ω A (QR κ ω A ad (some (.long res.1)) (w_X8_findLeast c_askers c_places res.2.1 c_cost res.2.2.1 res.2.2.2.1 c_seats res.2.2.2.2 c_wish u_above u_below u_firsts u_freed u_whole)) ad 0 0 146 (w_X8_findLeast c_askers c_places c_full c_cost c_found c_least c_seats c_weight c_wish u_above u_below u_firsts u_freed u_whole) [some (.ref 0), some (.int v1), some (.int v2), some (.long v3), none, some (.int v5), none, none, none] [.long s0] := by
  refine G_lstore dX8_findLeast_146 (ltb rfl) ?_
  change GG _ _ _ _ _ _ _ _ _ _ [some (.ref 0), some (.int v1), some (.int v2), some (.long v3), none, some (.int v5), none, some (.long s0), none] _
  refine G_lload dX8_findLeast_148 rfl ?_
  refine G_lload_n dX8_findLeast_150 rfl rfl ?_
  refine G_lcmp_ge 160 dX8_findLeast_151 dX8_findLeast_152 (by decide) (fun h1 => ?_) (fun h1 => ?_)
  · replace hf := ob_t h1 hf
    refine G_lload_n dX8_findLeast_160 rfl rfl ?_
    refine G_lstore_n dX8_findLeast_161 rfl (ltb rfl) ?_
    change GG _ _ _ _ _ _ _ _ _ _ [some (.ref 0), some (.int v1), some (.int v2), some (.long v3), none, some (.int v5), none, some (.long s0), none] _
    refine G_iinc 1 dX8_findLeast_162 (by decide) rfl (ltb rfl) ?_
    change GG _ _ _ _ _ _ _ _ _ _ [some (.ref 0), some (.int v1), some (.int v2), some (.long v3), none, some (.int (v5 + 1)), none, some (.long s0), none] _
    refine G_goto 64 dX8_findLeast_165 (by decide) ?_
    refine GG.sb (lv2 := [some (.ref 0), some (.int v1), some (.int v2), some (.long v3), none, some (.int (v5 + 1)), none, none, none]) ?_ (lvS_v rfl (lvS_v rfl (lvS_v rfl (lvS_v rfl (lvS_n (lvS_v rfl (lvS_n (lvS_n (lvS_n (lvS_e))))))))))
    exact hk64 hf
  · replace hf := ob_f h1 hf
    refine G_lload dX8_findLeast_155 rfl ?_
    refine G_goto 161 dX8_findLeast_157 (by decide) ?_
    refine G_lstore_n dX8_findLeast_161 rfl (ltb rfl) ?_
    change GG _ _ _ _ _ _ _ _ _ _ [some (.ref 0), some (.int v1), some (.int v2), some (.long s0), none, some (.int v5), none, some (.long s0), none] _
    refine G_iinc 1 dX8_findLeast_162 (by decide) rfl (ltb rfl) ?_
    change GG _ _ _ _ _ _ _ _ _ _ [some (.ref 0), some (.int v1), some (.int v2), some (.long s0), none, some (.int (v5 + 1)), none, some (.long s0), none] _
    refine G_goto 64 dX8_findLeast_165 (by decide) ?_
    refine GG.sb (lv2 := [some (.ref 0), some (.int v1), some (.int v2), some (.long s0), none, some (.int (v5 + 1)), none, none, none]) ?_ (lvS_v rfl (lvS_v rfl (lvS_v rfl (lvS_v rfl (lvS_n (lvS_v rfl (lvS_n (lvS_n (lvS_n (lvS_e))))))))))
    exact hk64 hf
def f_X8_findLeast_104 (N : Nat) (c_askers : Int32) (c_places : Int32) (c_cost : Nat → Int64) (c_seats : Nat → Int32) (c_wish : Nat → Int32) (k64 : Int32 → (Nat → Int32) → (Nat → Int64) → (Nat → Int32) → Int32 → Int32 → Int64 → Int32 → Option (Int64 × Int32 × (Nat → Int32) × (Nat → Int64) × (Nat → Int32))) (c_full : Int32) (c_found : Nat → Int32) (c_least : Nat → Int64) (c_weight : Nat → Int32) (v1 : Int32) (v2 : Int32) (v3 : Int64) (v5 : Int32) (s0 : Int32) : Option (Int64 × Int32 × (Nat → Int32) × (Nat → Int64) × (Nat → Int32)) :=
    (if s0 = (-1 : Int32) then
      f_X8_findLeast_146 N c_askers c_places c_cost c_seats c_wish k64 c_full c_found c_least c_weight v1 v2 v3 v5 1000000000000000000
    else
      (rdL 56 c_cost ((7 * v1) + v5)).bind fun t2 =>
      (rdL 36864 c_least ((4096 * (v1 + 1)) + s0)).bind fun t3 =>
      f_X8_findLeast_146 N c_askers c_places c_cost c_seats c_wish k64 c_full c_found c_least c_weight v1 v2 v3 v5 (t2 + t3))
set_option maxHeartbeats 4000000 in
set_option maxRecDepth 100000 in
theorem g_X8_findLeast_104 {κ : KC} {ω : KW} {A : Nat → Prop} {ad : Nat → Nat} {u_above : Int64} {u_below : Int64} {u_firsts : Int32} {u_freed : Int32} {u_whole : Int64} {N : Nat} {c_askers : Int32} {c_places : Int32} {c_cost : Nat → Int64} {c_seats : Nat → Int32} {c_wish : Nat → Int32}  {k64 : Int32 → (Nat → Int32) → (Nat → Int64) → (Nat → Int32) → Int32 → Int32 → Int64 → Int32 → Option (Int64 × Int32 × (Nat → Int32) × (Nat → Int64) × (Nat → Int32))} {res : Int64 × Int32 × (Nat → Int32) × (Nat → Int64) × (Nat → Int32)} (hk64 : ∀ {c_full : Int32} {c_found : Nat → Int32} {c_least : Nat → Int64} {c_weight : Nat → Int32} {v1 : Int32} {v2 : Int32} {v3 : Int64} {v5 : Int32}, k64 c_full c_found c_least c_weight v1 v2 v3 v5 = some res → GG mu_X8_findLeast κ ω A (QR κ ω A ad (some (.long res.1)) (w_X8_findLeast c_askers c_places res.2.1 c_cost res.2.2.1 res.2.2.2.1 c_seats res.2.2.2.2 c_wish u_above u_below u_firsts u_freed u_whole)) ad 0 0 64 (w_X8_findLeast c_askers c_places c_full c_cost c_found c_least c_seats c_weight c_wish u_above u_below u_firsts u_freed u_whole) [some (.ref 0), some (.int v1), some (.int v2), some (.long v3), none, some (.int v5), none, none, none] []) {c_full : Int32} {c_found : Nat → Int32} {c_least : Nat → Int64} {c_weight : Nat → Int32} {v1 : Int32} {v2 : Int32} {v3 : Int64} {v5 : Int32} {s0 : Int32} (hf : f_X8_findLeast_104 N c_askers c_places c_cost c_seats c_wish k64 c_full c_found c_least c_weight v1 v2 v3 v5 s0 = some res) : GG mu_X8_findLeast κ ω A (QR κ ω A ad (some (.long res.1)) (w_X8_findLeast c_askers c_places res.2.1 c_cost res.2.2.1 res.2.2.2.1 c_seats res.2.2.2.2 c_wish u_above u_below u_firsts u_freed u_whole)) ad 0 0 104 (w_X8_findLeast c_askers c_places c_full c_cost c_found c_least c_seats c_weight c_wish u_above u_below u_firsts u_freed u_whole) [some (.ref 0), some (.int v1), some (.int v2), some (.long v3), none, some (.int v5), none, none, none] [.int s0] := by
  refine G_istore dX8_findLeast_104 (ltb rfl) ?_
  change GG _ _ _ _ _ _ _ _ _ _ [some (.ref 0), some (.int v1), some (.int v2), some (.long v3), none, some (.int v5), some (.int s0), none, none] _
  refine G_iload dX8_findLeast_106 rfl ?_
  refine G_iconst (-1 : Int32) dX8_findLeast_108 (by decide) ?_
  refine G_icmp_ne 118 dX8_findLeast_109 (by decide) (fun h1 => ?_) (fun h1 => ?_)
  · replace hf := ob_f h1 hf
    refine G_aload_n dX8_findLeast_118 rfl rfl ?_
    refine G_get (v := .ref 1) F_X8_30 dX8_findLeast_119 rfl rfl ?_
    refine G_bipush 7 dX8_findLeast_122 (by decide) ?_
    refine G_iload_n dX8_findLeast_124 rfl rfl ?_
    refine G_imul dX8_findLeast_125 ?_
    refine G_iload dX8_findLeast_126 rfl ?_
    refine G_iadd dX8_findLeast_128 ?_
    obtain ⟨t2, ht2, hf⟩ := ob hf
    refine G_lald dX8_findLeast_129 rfl ht2 ?_
    refine G_aload_n dX8_findLeast_130 rfl rfl ?_
    refine G_get (v := .ref 3) F_X8_33 dX8_findLeast_131 rfl rfl ?_
    refine G_sipush 4096 dX8_findLeast_134 (by decide) ?_
    refine G_iload_n dX8_findLeast_137 rfl rfl ?_
    refine G_iconst 1 dX8_findLeast_138 (by decide) ?_
    refine G_iadd dX8_findLeast_139 ?_
    refine G_imul dX8_findLeast_140 ?_
    refine G_iload dX8_findLeast_141 rfl ?_
    refine G_iadd dX8_findLeast_143 ?_
    obtain ⟨t3, ht3, hf⟩ := ob hf
    refine G_lald dX8_findLeast_144 rfl ht3 ?_
    refine G_ladd dX8_findLeast_145 ?_
    refine GG.sb (lv2 := [some (.ref 0), some (.int v1), some (.int v2), some (.long v3), none, some (.int v5), none, none, none]) ?_ (lvS_v rfl (lvS_v rfl (lvS_v rfl (lvS_v rfl (lvS_n (lvS_v rfl (lvS_n (lvS_n (lvS_n (lvS_e))))))))))
    exact g_X8_findLeast_146 hk64 hf
  · replace hf := ob_t h1 hf
    refine G_ldc2 (v := 1000000000000000000) dX8_findLeast_112 k_X8_130 ?_
    refine G_goto 146 dX8_findLeast_115 (by decide) ?_
    refine GG.sb (lv2 := [some (.ref 0), some (.int v1), some (.int v2), some (.long v3), none, some (.int v5), none, none, none]) ?_ (lvS_v rfl (lvS_v rfl (lvS_v rfl (lvS_v rfl (lvS_n (lvS_v rfl (lvS_n (lvS_n (lvS_n (lvS_e))))))))))
    exact g_X8_findLeast_146 hk64 hf
def f_X8_findLeast_64 (N : Nat) (c_askers : Int32) (c_places : Int32) (c_cost : Nat → Int64) (c_seats : Nat → Int32) (c_wish : Nat → Int32) (k49 : Int32 → (Nat → Int32) → (Nat → Int64) → (Nat → Int32) → Int32 → Int32 → Option (Int64 × Int32 × (Nat → Int32) × (Nat → Int64) × (Nat → Int32))) : Nat → Int32 → (Nat → Int32) → (Nat → Int64) → (Nat → Int32) → Int32 → Int32 → Int64 → Int32 → Option (Int64 × Int32 × (Nat → Int32) × (Nat → Int64) × (Nat → Int32))
  | 0, _, _, _, _, _, _, _, _ => none
  | n + 1, c_full, c_found, c_least, c_weight, v1, v2, v3, v5 =>
    (if c_places < v5 then
      (wrL 36864 c_least ((4096 * v1) + v2) v3).bind fun t2 =>
      k49 c_full c_found t2 c_weight v1 (v2 + 1)
    else
      (rdL 56 c_cost ((7 * v1) + v5)).bind fun t3 =>
      (if t3 = 1000000000000000000 then
        f_X8_findLeast_104 N c_askers c_places c_cost c_seats c_wish (f_X8_findLeast_64 N c_askers c_places c_cost c_seats c_wish k49 n) c_full c_found c_least c_weight v1 v2 v3 v5 (-1 : Int32)
      else
        (f_X8_takes N c_places c_seats c_weight c_wish v1 v5 v2).bind fun r5 =>
        f_X8_findLeast_104 N c_askers c_places c_cost c_seats c_wish (f_X8_findLeast_64 N c_askers c_places c_cost c_seats c_wish k49 n) c_full c_found c_least c_weight v1 v2 v3 v5 r5))
set_option maxHeartbeats 4000000 in
set_option maxRecDepth 100000 in
theorem g_X8_findLeast_64 {κ : KC} {ω : KW} {A : Nat → Prop} {ad : Nat → Nat} {u_above : Int64} {u_below : Int64} {u_firsts : Int32} {u_freed : Int32} {u_whole : Int64} {N : Nat} {c_askers : Int32} {c_places : Int32} {c_cost : Nat → Int64} {c_seats : Nat → Int32} {c_wish : Nat → Int32}  {k49 : Int32 → (Nat → Int32) → (Nat → Int64) → (Nat → Int32) → Int32 → Int32 → Option (Int64 × Int32 × (Nat → Int32) × (Nat → Int64) × (Nat → Int32))} {res : Int64 × Int32 × (Nat → Int32) × (Nat → Int64) × (Nat → Int32)} (hk49 : ∀ {c_full : Int32} {c_found : Nat → Int32} {c_least : Nat → Int64} {c_weight : Nat → Int32} {v1 : Int32} {v2 : Int32}, k49 c_full c_found c_least c_weight v1 v2 = some res → GG mu_X8_findLeast κ ω A (QR κ ω A ad (some (.long res.1)) (w_X8_findLeast c_askers c_places res.2.1 c_cost res.2.2.1 res.2.2.2.1 c_seats res.2.2.2.2 c_wish u_above u_below u_firsts u_freed u_whole)) ad 0 0 49 (w_X8_findLeast c_askers c_places c_full c_cost c_found c_least c_seats c_weight c_wish u_above u_below u_firsts u_freed u_whole) [some (.ref 0), some (.int v1), some (.int v2), none, none, none, none, none, none] []) : ∀ (n : Nat) {c_full : Int32} {c_found : Nat → Int32} {c_least : Nat → Int64} {c_weight : Nat → Int32} {v1 : Int32} {v2 : Int32} {v3 : Int64} {v5 : Int32}, f_X8_findLeast_64 N c_askers c_places c_cost c_seats c_wish k49 n c_full c_found c_least c_weight v1 v2 v3 v5 = some res → GG mu_X8_findLeast κ ω A (QR κ ω A ad (some (.long res.1)) (w_X8_findLeast c_askers c_places res.2.1 c_cost res.2.2.1 res.2.2.2.1 c_seats res.2.2.2.2 c_wish u_above u_below u_firsts u_freed u_whole)) ad 0 0 64 (w_X8_findLeast c_askers c_places c_full c_cost c_found c_least c_seats c_weight c_wish u_above u_below u_firsts u_freed u_whole) [some (.ref 0), some (.int v1), some (.int v2), some (.long v3), none, some (.int v5), none, none, none] [] := by
  intro n
  induction n with
  | zero => intro c_full c_found c_least c_weight v1 v2 v3 v5 hf; exact ob_0 hf
  | succ n ih =>
    intro c_full c_found c_least c_weight v1 v2 v3 v5 hf
    refine G_iload dX8_findLeast_64 rfl ?_
    refine G_aload_n dX8_findLeast_66 rfl rfl ?_
    refine G_get (v := .int c_places) F_X8_97 dX8_findLeast_67 rfl rfl ?_
    refine G_icmp_gt 168 dX8_findLeast_70 (by decide) (fun h1 => ?_) (fun h1 => ?_)
    · replace hf := ob_t h1 hf
      refine G_aload_n dX8_findLeast_168 rfl rfl ?_
      refine G_get (v := .ref 3) F_X8_33 dX8_findLeast_169 rfl rfl ?_
      refine G_sipush 4096 dX8_findLeast_172 (by decide) ?_
      refine G_iload_n dX8_findLeast_175 rfl rfl ?_
      refine G_imul dX8_findLeast_176 ?_
      refine G_iload_n dX8_findLeast_177 rfl rfl ?_
      refine G_iadd dX8_findLeast_178 ?_
      refine G_lload_n dX8_findLeast_179 rfl rfl ?_
      obtain ⟨t2, ht2, hf⟩ := ob hf
      refine G_last (w2 := (w_X8_findLeast c_askers c_places c_full c_cost c_found t2 c_seats c_weight c_wish u_above u_below u_firsts u_freed u_whole)) dX8_findLeast_180 rfl ht2 rfl ?_
      refine G_iinc 1 dX8_findLeast_181 (by decide) rfl (ltb rfl) ?_
      change GG _ _ _ _ _ _ _ _ _ _ [some (.ref 0), some (.int v1), some (.int (v2 + 1)), some (.long v3), none, some (.int v5), none, none, none] _
      refine G_goto 49 dX8_findLeast_184 (by decide) ?_
      refine GG.sb (lv2 := [some (.ref 0), some (.int v1), some (.int (v2 + 1)), none, none, none, none, none, none]) ?_ (lvS_v rfl (lvS_v rfl (lvS_v rfl (lvS_n (lvS_n (lvS_n (lvS_n (lvS_n (lvS_n (lvS_e))))))))))
      exact hk49 hf
    · replace hf := ob_f h1 hf
      refine G_aload_n dX8_findLeast_73 rfl rfl ?_
      refine G_get (v := .ref 1) F_X8_30 dX8_findLeast_74 rfl rfl ?_
      refine G_bipush 7 dX8_findLeast_77 (by decide) ?_
      refine G_iload_n dX8_findLeast_79 rfl rfl ?_
      refine G_imul dX8_findLeast_80 ?_
      refine G_iload dX8_findLeast_81 rfl ?_
      refine G_iadd dX8_findLeast_83 ?_
      obtain ⟨t3, ht3, hf⟩ := ob hf
      refine G_lald dX8_findLeast_84 rfl ht3 ?_
      refine G_ldc2 (v := 1000000000000000000) dX8_findLeast_85 k_X8_130 ?_
      refine G_lcmp_ne 96 dX8_findLeast_88 dX8_findLeast_89 (by decide) (fun h4 => ?_) (fun h4 => ?_)
      · replace hf := ob_f h4 hf
        refine G_aload_n dX8_findLeast_96 rfl rfl ?_
        refine G_iload_n dX8_findLeast_97 rfl rfl ?_
        refine G_iload dX8_findLeast_98 rfl ?_
        refine G_iload_n dX8_findLeast_100 rfl rfl ?_
        obtain ⟨r5, hc6, hf⟩ := ob hf
        refine G_callV (μ2 := mu_X8_takes) (As := [.int v1, .int v5, .int v2]) (w2 := (w_X8_findLeast c_askers c_places c_full c_cost c_found c_least c_seats c_weight c_wish u_above u_below u_firsts u_freed u_whole)) (wc := (w_X8_takes c_places c_seats c_weight c_wish c_askers u_above u_below c_full u_firsts u_freed u_whole)) (wc2 := (w_X8_takes c_places c_seats c_weight c_wish c_askers u_above u_below c_full u_firsts u_freed u_whole)) (rest := []) (rv := [.int r5]) [0, 4, 5, 6] [1000, 1001, 2, 1, 3, 1002, 1003, 1004, 1005, 1006, 1007, 1008, 1009, 1010, 1011, 1012, 1013, 1014] [1, 2, 3] [3, 0, 1, 2, 4, 5, 6] (c_X8_takes hc6) cw_X8_takes m_X8_120 dX8_findLeast_101 rfl ⟨leb rfl, leb rfl⟩ ⟨rfl, rfl⟩ rfl ⟨_, rfl, rfl⟩ (Fit.mk rfl rfl rfl) rfl (leb rfl) (ROsub.nil rfl rfl) rfl ?_
        change GG _ _ _ _ _ _ _ _ _ (w_X8_findLeast c_askers c_places c_full c_cost c_found c_least c_seats c_weight c_wish u_above u_below u_firsts u_freed u_whole) [some (.ref 0), some (.int v1), some (.int v2), some (.long v3), none, some (.int v5), none, none, none] [.int r5]
        exact g_X8_findLeast_104 ih hf
      · replace hf := ob_t h4 hf
        refine G_iconst (-1 : Int32) dX8_findLeast_92 (by decide) ?_
        refine G_goto 104 dX8_findLeast_93 (by decide) ?_
        exact g_X8_findLeast_104 ih hf
def f_X8_findLeast_49 (N : Nat) (c_askers : Int32) (c_places : Int32) (c_cost : Nat → Int64) (c_seats : Nat → Int32) (c_wish : Nat → Int32) (k43 : Int32 → (Nat → Int32) → (Nat → Int64) → (Nat → Int32) → Int32 → Option (Int64 × Int32 × (Nat → Int32) × (Nat → Int64) × (Nat → Int32))) : Nat → Int32 → (Nat → Int32) → (Nat → Int64) → (Nat → Int32) → Int32 → Int32 → Option (Int64 × Int32 × (Nat → Int32) × (Nat → Int64) × (Nat → Int32))
  | 0, _, _, _, _, _, _ => none
  | n + 1, c_full, c_found, c_least, c_weight, v1, v2 =>
    (if c_full < v2 then
      k43 c_full c_found c_least c_weight (v1 + (-1))
    else
      f_X8_findLeast_64 N c_askers c_places c_cost c_seats c_wish (f_X8_findLeast_49 N c_askers c_places c_cost c_seats c_wish k43 n) N c_full c_found c_least c_weight v1 v2 1000000000000000000 0)
set_option maxHeartbeats 4000000 in
set_option maxRecDepth 100000 in
theorem g_X8_findLeast_49 {κ : KC} {ω : KW} {A : Nat → Prop} {ad : Nat → Nat} {u_above : Int64} {u_below : Int64} {u_firsts : Int32} {u_freed : Int32} {u_whole : Int64} {N : Nat} {c_askers : Int32} {c_places : Int32} {c_cost : Nat → Int64} {c_seats : Nat → Int32} {c_wish : Nat → Int32}  {k43 : Int32 → (Nat → Int32) → (Nat → Int64) → (Nat → Int32) → Int32 → Option (Int64 × Int32 × (Nat → Int32) × (Nat → Int64) × (Nat → Int32))} {res : Int64 × Int32 × (Nat → Int32) × (Nat → Int64) × (Nat → Int32)} (hk43 : ∀ {c_full : Int32} {c_found : Nat → Int32} {c_least : Nat → Int64} {c_weight : Nat → Int32} {v1 : Int32}, k43 c_full c_found c_least c_weight v1 = some res → GG mu_X8_findLeast κ ω A (QR κ ω A ad (some (.long res.1)) (w_X8_findLeast c_askers c_places res.2.1 c_cost res.2.2.1 res.2.2.2.1 c_seats res.2.2.2.2 c_wish u_above u_below u_firsts u_freed u_whole)) ad 0 0 43 (w_X8_findLeast c_askers c_places c_full c_cost c_found c_least c_seats c_weight c_wish u_above u_below u_firsts u_freed u_whole) [some (.ref 0), some (.int v1), none, none, none, none, none, none, none] []) : ∀ (n : Nat) {c_full : Int32} {c_found : Nat → Int32} {c_least : Nat → Int64} {c_weight : Nat → Int32} {v1 : Int32} {v2 : Int32}, f_X8_findLeast_49 N c_askers c_places c_cost c_seats c_wish k43 n c_full c_found c_least c_weight v1 v2 = some res → GG mu_X8_findLeast κ ω A (QR κ ω A ad (some (.long res.1)) (w_X8_findLeast c_askers c_places res.2.1 c_cost res.2.2.1 res.2.2.2.1 c_seats res.2.2.2.2 c_wish u_above u_below u_firsts u_freed u_whole)) ad 0 0 49 (w_X8_findLeast c_askers c_places c_full c_cost c_found c_least c_seats c_weight c_wish u_above u_below u_firsts u_freed u_whole) [some (.ref 0), some (.int v1), some (.int v2), none, none, none, none, none, none] [] := by
  intro n
  induction n with
  | zero => intro c_full c_found c_least c_weight v1 v2 hf; exact ob_0 hf
  | succ n ih =>
    intro c_full c_found c_least c_weight v1 v2 hf
    refine G_iload_n dX8_findLeast_49 rfl rfl ?_
    refine G_aload_n dX8_findLeast_50 rfl rfl ?_
    refine G_get (v := .int c_full) F_X8_114 dX8_findLeast_51 rfl rfl ?_
    refine G_icmp_gt 187 dX8_findLeast_54 (by decide) (fun h1 => ?_) (fun h1 => ?_)
    · replace hf := ob_t h1 hf
      refine G_iinc (-1) dX8_findLeast_187 (by decide) rfl (ltb rfl) ?_
      change GG _ _ _ _ _ _ _ _ _ _ [some (.ref 0), some (.int (v1 + (-1))), some (.int v2), none, none, none, none, none, none] _
      refine G_goto 43 dX8_findLeast_190 (by decide) ?_
      refine GG.sb (lv2 := [some (.ref 0), some (.int (v1 + (-1))), none, none, none, none, none, none, none]) ?_ (lvS_v rfl (lvS_v rfl (lvS_n (lvS_n (lvS_n (lvS_n (lvS_n (lvS_n (lvS_n (lvS_e))))))))))
      exact hk43 hf
    · replace hf := ob_f h1 hf
      refine G_ldc2 (v := 1000000000000000000) dX8_findLeast_57 k_X8_130 ?_
      refine G_lstore_n dX8_findLeast_60 rfl (ltb rfl) ?_
      change GG _ _ _ _ _ _ _ _ _ _ [some (.ref 0), some (.int v1), some (.int v2), some (.long 1000000000000000000), none, none, none, none, none] _
      refine G_iconst 0 dX8_findLeast_61 (by decide) ?_
      refine G_istore dX8_findLeast_62 (ltb rfl) ?_
      change GG _ _ _ _ _ _ _ _ _ _ [some (.ref 0), some (.int v1), some (.int v2), some (.long 1000000000000000000), none, some (.int 0), none, none, none] _
      exact g_X8_findLeast_64 ih N hf
def f_X8_findLeast_43 (N : Nat) (c_askers : Int32) (c_places : Int32) (c_cost : Nat → Int64) (c_seats : Nat → Int32) (c_wish : Nat → Int32) : Nat → Int32 → (Nat → Int32) → (Nat → Int64) → (Nat → Int32) → Int32 → Option (Int64 × Int32 × (Nat → Int32) × (Nat → Int64) × (Nat → Int32))
  | 0, _, _, _, _, _ => none
  | n + 1, c_full, c_found, c_least, c_weight, v1 =>
    (if v1 < 0 then
      f_X8_findLeast_200 N c_askers c_places c_cost c_seats c_wish N c_full c_found c_least c_weight c_full 0
    else
      f_X8_findLeast_49 N c_askers c_places c_cost c_seats c_wish (f_X8_findLeast_43 N c_askers c_places c_cost c_seats c_wish n) N c_full c_found c_least c_weight v1 0)
set_option maxHeartbeats 4000000 in
set_option maxRecDepth 100000 in
theorem g_X8_findLeast_43 {κ : KC} {ω : KW} {A : Nat → Prop} {ad : Nat → Nat} {u_above : Int64} {u_below : Int64} {u_firsts : Int32} {u_freed : Int32} {u_whole : Int64} {N : Nat} {c_askers : Int32} {c_places : Int32} {c_cost : Nat → Int64} {c_seats : Nat → Int32} {c_wish : Nat → Int32}  {res : Int64 × Int32 × (Nat → Int32) × (Nat → Int64) × (Nat → Int32)} : ∀ (n : Nat) {c_full : Int32} {c_found : Nat → Int32} {c_least : Nat → Int64} {c_weight : Nat → Int32} {v1 : Int32}, f_X8_findLeast_43 N c_askers c_places c_cost c_seats c_wish n c_full c_found c_least c_weight v1 = some res → GG mu_X8_findLeast κ ω A (QR κ ω A ad (some (.long res.1)) (w_X8_findLeast c_askers c_places res.2.1 c_cost res.2.2.1 res.2.2.2.1 c_seats res.2.2.2.2 c_wish u_above u_below u_firsts u_freed u_whole)) ad 0 0 43 (w_X8_findLeast c_askers c_places c_full c_cost c_found c_least c_seats c_weight c_wish u_above u_below u_firsts u_freed u_whole) [some (.ref 0), some (.int v1), none, none, none, none, none, none, none] [] := by
  intro n
  induction n with
  | zero => intro c_full c_found c_least c_weight v1 hf; exact ob_0 hf
  | succ n ih =>
    intro c_full c_found c_least c_weight v1 hf
    refine G_iload_n dX8_findLeast_43 rfl rfl ?_
    refine G_if_lt 193 dX8_findLeast_44 (by decide) (fun h1 => ?_) (fun h1 => ?_)
    · replace hf := ob_t h1 hf
      refine G_aload_n dX8_findLeast_193 rfl rfl ?_
      refine G_get (v := .int c_full) F_X8_114 dX8_findLeast_194 rfl rfl ?_
      refine G_istore_n dX8_findLeast_197 rfl (ltb rfl) ?_
      change GG _ _ _ _ _ _ _ _ _ _ [some (.ref 0), some (.int c_full), none, none, none, none, none, none, none] _
      refine G_iconst 0 dX8_findLeast_198 (by decide) ?_
      refine G_istore_n dX8_findLeast_199 rfl (ltb rfl) ?_
      change GG _ _ _ _ _ _ _ _ _ _ [some (.ref 0), some (.int c_full), some (.int 0), none, none, none, none, none, none] _
      exact g_X8_findLeast_200 N hf
    · replace hf := ob_f h1 hf
      refine G_iconst 0 dX8_findLeast_47 (by decide) ?_
      refine G_istore_n dX8_findLeast_48 rfl (ltb rfl) ?_
      change GG _ _ _ _ _ _ _ _ _ _ [some (.ref 0), some (.int v1), some (.int 0), none, none, none, none, none, none] _
      exact g_X8_findLeast_49 ih N hf
def f_X8_findLeast_6 (N : Nat) (c_askers : Int32) (c_places : Int32) (c_cost : Nat → Int64) (c_seats : Nat → Int32) (c_wish : Nat → Int32) : Nat → Int32 → (Nat → Int32) → (Nat → Int64) → (Nat → Int32) → Int32 → Option (Int64 × Int32 × (Nat → Int32) × (Nat → Int64) × (Nat → Int32))
  | 0, _, _, _, _, _ => none
  | n + 1, c_full, c_found, c_least, c_weight, v1 =>
    (if c_full < v1 then
      f_X8_findLeast_43 N c_askers c_places c_cost c_seats c_wish N c_full c_found c_least c_weight (c_askers - 1)
    else
      (wrL 36864 c_least ((4096 * c_askers) + v1) 0).bind fun t2 =>
      f_X8_findLeast_6 N c_askers c_places c_cost c_seats c_wish n c_full c_found t2 c_weight (v1 + 1))
set_option maxHeartbeats 4000000 in
set_option maxRecDepth 100000 in
theorem g_X8_findLeast_6 {κ : KC} {ω : KW} {A : Nat → Prop} {ad : Nat → Nat} {u_above : Int64} {u_below : Int64} {u_firsts : Int32} {u_freed : Int32} {u_whole : Int64} {N : Nat} {c_askers : Int32} {c_places : Int32} {c_cost : Nat → Int64} {c_seats : Nat → Int32} {c_wish : Nat → Int32}  {res : Int64 × Int32 × (Nat → Int32) × (Nat → Int64) × (Nat → Int32)} : ∀ (n : Nat) {c_full : Int32} {c_found : Nat → Int32} {c_least : Nat → Int64} {c_weight : Nat → Int32} {v1 : Int32}, f_X8_findLeast_6 N c_askers c_places c_cost c_seats c_wish n c_full c_found c_least c_weight v1 = some res → GG mu_X8_findLeast κ ω A (QR κ ω A ad (some (.long res.1)) (w_X8_findLeast c_askers c_places res.2.1 c_cost res.2.2.1 res.2.2.2.1 c_seats res.2.2.2.2 c_wish u_above u_below u_firsts u_freed u_whole)) ad 0 0 6 (w_X8_findLeast c_askers c_places c_full c_cost c_found c_least c_seats c_weight c_wish u_above u_below u_firsts u_freed u_whole) [some (.ref 0), some (.int v1), none, none, none, none, none, none, none] [] := by
  intro n
  induction n with
  | zero => intro c_full c_found c_least c_weight v1 hf; exact ob_0 hf
  | succ n ih =>
    intro c_full c_found c_least c_weight v1 hf
    refine G_iload_n dX8_findLeast_6 rfl rfl ?_
    refine G_aload_n dX8_findLeast_7 rfl rfl ?_
    refine G_get (v := .int c_full) F_X8_114 dX8_findLeast_8 rfl rfl ?_
    refine G_icmp_gt 36 dX8_findLeast_11 (by decide) (fun h1 => ?_) (fun h1 => ?_)
    · replace hf := ob_t h1 hf
      refine G_aload_n dX8_findLeast_36 rfl rfl ?_
      refine G_get (v := .int c_askers) F_X8_89 dX8_findLeast_37 rfl rfl ?_
      refine G_iconst 1 dX8_findLeast_40 (by decide) ?_
      refine G_isub dX8_findLeast_41 ?_
      refine G_istore_n dX8_findLeast_42 rfl (ltb rfl) ?_
      change GG _ _ _ _ _ _ _ _ _ _ [some (.ref 0), some (.int (c_askers - 1)), none, none, none, none, none, none, none] _
      exact g_X8_findLeast_43 N hf
    · replace hf := ob_f h1 hf
      refine G_aload_n dX8_findLeast_14 rfl rfl ?_
      refine G_get (v := .ref 3) F_X8_33 dX8_findLeast_15 rfl rfl ?_
      refine G_sipush 4096 dX8_findLeast_18 (by decide) ?_
      refine G_aload_n dX8_findLeast_21 rfl rfl ?_
      refine G_get (v := .int c_askers) F_X8_89 dX8_findLeast_22 rfl rfl ?_
      refine G_imul dX8_findLeast_25 ?_
      refine G_iload_n dX8_findLeast_26 rfl rfl ?_
      refine G_iadd dX8_findLeast_27 ?_
      refine G_lconst 0 dX8_findLeast_28 (by decide) ?_
      obtain ⟨t2, ht2, hf⟩ := ob hf
      refine G_last (w2 := (w_X8_findLeast c_askers c_places c_full c_cost c_found t2 c_seats c_weight c_wish u_above u_below u_firsts u_freed u_whole)) dX8_findLeast_29 rfl ht2 rfl ?_
      refine G_iinc 1 dX8_findLeast_30 (by decide) rfl (ltb rfl) ?_
      change GG _ _ _ _ _ _ _ _ _ _ [some (.ref 0), some (.int (v1 + 1)), none, none, none, none, none, none, none] _
      refine G_goto 6 dX8_findLeast_33 (by decide) ?_
      exact ih hf
def f_X8_findLeast (N : Nat) (c_askers : Int32) (c_places : Int32) (c_cost : Nat → Int64) (c_seats : Nat → Int32) (c_wish : Nat → Int32) (c_full : Int32) (c_found : Nat → Int32) (c_least : Nat → Int64) (c_weight : Nat → Int32)  : Option (Int64 × Int32 × (Nat → Int32) × (Nat → Int64) × (Nat → Int32)) :=
  (f_X8_findWeights N c_places c_seats c_full c_weight).bind fun (o1, o2) =>
  f_X8_findLeast_6 N c_askers c_places c_cost c_seats c_wish N o1 c_found c_least o2 0
set_option maxHeartbeats 4000000 in
set_option maxRecDepth 100000 in
theorem c_X8_findLeast {N : Nat} {c_askers : Int32} {c_places : Int32} {c_cost : Nat → Int64} {c_seats : Nat → Int32} {c_wish : Nat → Int32} {c_full : Int32} {c_found : Nat → Int32} {c_least : Nat → Int64} {c_weight : Nat → Int32} {u_above : Int64} {u_below : Int64} {u_firsts : Int32} {u_freed : Int32} {u_whole : Int64}  {res : Int64 × Int32 × (Nat → Int32) × (Nat → Int64) × (Nat → Int32)} (hf : f_X8_findLeast N c_askers c_places c_cost c_seats c_wish c_full c_found c_least c_weight = some res) : Con mu_X8_findLeast [.ref 0] (w_X8_findLeast c_askers c_places c_full c_cost c_found c_least c_seats c_weight c_wish u_above u_below u_firsts u_freed u_whole) (some (.long res.1)) (w_X8_findLeast c_askers c_places res.2.1 c_cost res.2.2.1 res.2.2.2.1 c_seats res.2.2.2.2 c_wish u_above u_below u_firsts u_freed u_whole) := by
  refine Con.mk (show plainName RX8 = true by decide +kernel) (leb rfl) (fun κ ω A ad => ?_)
  change GG mu_X8_findLeast κ ω A (QR κ ω A ad (some (.long res.1)) (w_X8_findLeast c_askers c_places res.2.1 c_cost res.2.2.1 res.2.2.2.1 c_seats res.2.2.2.2 c_wish u_above u_below u_firsts u_freed u_whole)) ad 0 0 0 (w_X8_findLeast c_askers c_places c_full c_cost c_found c_least c_seats c_weight c_wish u_above u_below u_firsts u_freed u_whole) [some (.ref 0), none, none, none, none, none, none, none, none] []
  refine G_aload_n dX8_findLeast_0 rfl rfl ?_
  obtain ⟨⟨o1, o2⟩, hc3, hf⟩ := ob hf
  refine G_callV (μ2 := mu_X8_findWeights) (As := []) (w2 := (w_X8_findLeast c_askers c_places o1 c_cost c_found c_least c_seats o2 c_wish u_above u_below u_firsts u_freed u_whole)) (wc := (w_X8_findWeights c_places c_full c_seats c_weight c_askers u_above u_below u_firsts u_freed u_whole)) (wc2 := (w_X8_findWeights c_places o1 c_seats o2 c_askers u_above u_below u_firsts u_freed u_whole)) (rest := []) (rv := []) [0, 4, 5] [6, 1000, 1001, 2, 1, 3, 1002, 1003, 1004, 1005, 1006, 1007, 1008, 1009, 1010, 1011, 1012, 1013, 1014] [1, 2, 3, 6] [4, 0, 1, 2, 5, 6, 3] (c_X8_findWeights hc3) cw_X8_findWeights m_X8_117 dX8_findLeast_1 rfl ⟨leb rfl, leb rfl⟩ ⟨rfl, rfl⟩ rfl ⟨_, rfl, rfl⟩ (Fit.mk rfl rfl rfl) rfl (leb rfl) (ROsub.nil rfl rfl) rfl ?_
  change GG _ _ _ _ _ _ _ _ _ (w_X8_findLeast c_askers c_places o1 c_cost c_found c_least c_seats o2 c_wish u_above u_below u_firsts u_freed u_whole) [some (.ref 0), none, none, none, none, none, none, none, none] []
  refine G_iconst 0 dX8_findLeast_4 (by decide) ?_
  refine G_istore_n dX8_findLeast_5 rfl (ltb rfl) ?_
  change GG _ _ _ _ _ _ _ _ _ _ [some (.ref 0), some (.int 0), none, none, none, none, none, none, none] _
  exact g_X8_findLeast_6 N hf
set_option maxRecDepth 20000 in
theorem dX8_power_0 : decode cX8_power 0 = .ok (.lconst 1, 1) := by decide +kernel
set_option maxRecDepth 20000 in
theorem dX8_power_1 : decode cX8_power 1 = .ok (.lstore_n 1, 1) := by decide +kernel
set_option maxRecDepth 20000 in
theorem dX8_power_2 : decode cX8_power 2 = .ok (.iconst 0, 1) := by decide +kernel
set_option maxRecDepth 20000 in
theorem dX8_power_3 : decode cX8_power 3 = .ok (.istore_n 3, 1) := by decide +kernel
set_option maxRecDepth 20000 in
theorem dX8_power_4 : decode cX8_power 4 = .ok (.iload_n 3, 1) := by decide +kernel
set_option maxRecDepth 20000 in
theorem dX8_power_5 : decode cX8_power 5 = .ok (.iload_n 0, 1) := by decide +kernel
set_option maxRecDepth 20000 in
theorem dX8_power_6 : decode cX8_power 6 = .ok (.if_icmp .ge 15, 3) := by decide +kernel
set_option maxRecDepth 20000 in
theorem dX8_power_9 : decode cX8_power 9 = .ok (.lload_n 1, 1) := by decide +kernel
set_option maxRecDepth 20000 in
theorem dX8_power_10 : decode cX8_power 10 = .ok (.ldc2_w 132, 3) := by decide +kernel
set_option maxRecDepth 20000 in
theorem dX8_power_13 : decode cX8_power 13 = .ok (.lmul, 1) := by decide +kernel
set_option maxRecDepth 20000 in
theorem dX8_power_14 : decode cX8_power 14 = .ok (.lstore_n 1, 1) := by decide +kernel
set_option maxRecDepth 20000 in
theorem dX8_power_15 : decode cX8_power 15 = .ok (.iinc 3 1, 3) := by decide +kernel
set_option maxRecDepth 20000 in
theorem dX8_power_18 : decode cX8_power 18 = .ok (.goto (-14), 3) := by decide +kernel
set_option maxRecDepth 20000 in
theorem dX8_power_21 : decode cX8_power 21 = .ok (.lload_n 1, 1) := by decide +kernel
set_option maxRecDepth 20000 in
theorem dX8_power_22 : decode cX8_power 22 = .ok (.lreturn, 1) := by decide +kernel
def f_X8_power_4 (N : Nat) : Nat → Int32 → Int64 → Int32 → Option (Int64)
  | 0, _, _, _ => none
  | n + 1, v0, v1, v3 =>
    (if v0 ≤ v3 then
      some v1
    else
      f_X8_power_4 N n v0 (v1 * 9) (v3 + 1))
set_option maxHeartbeats 4000000 in
set_option maxRecDepth 100000 in
theorem g_X8_power_4 {κ : KC} {ω : KW} {A : Nat → Prop} {ad : Nat → Nat}  {N : Nat}   {res : Int64} : ∀ (n : Nat) {v0 : Int32} {v1 : Int64} {v3 : Int32}, f_X8_power_4 N n v0 v1 v3 = some res → GG mu_X8_power κ ω A (QR κ ω A ad (some (.long res)) []) ad 0 0 4 [] [some (.int v0), some (.long v1), none, some (.int v3)] [] := by
  intro n
  induction n with
  | zero => intro v0 v1 v3 hf; exact ob_0 hf
  | succ n ih =>
    intro v0 v1 v3 hf
    refine G_iload_n dX8_power_4 rfl rfl ?_
    refine G_iload_n dX8_power_5 rfl rfl ?_
    refine G_icmp_ge 21 dX8_power_6 (by decide) (fun h1 => ?_) (fun h1 => ?_)
    · replace hf := ob_t h1 hf
      refine G_lload_n dX8_power_21 rfl rfl ?_
      obtain rfl := os hf
      exact G_lreturn dX8_power_22 rfl
    · replace hf := ob_f h1 hf
      refine G_lload_n dX8_power_9 rfl rfl ?_
      refine G_ldc2 (v := 9) dX8_power_10 k_X8_132 ?_
      refine G_lmul dX8_power_13 ?_
      refine G_lstore_n dX8_power_14 rfl (ltb rfl) ?_
      change GG _ _ _ _ _ _ _ _ _ _ [some (.int v0), some (.long (v1 * 9)), none, some (.int v3)] _
      refine G_iinc 1 dX8_power_15 (by decide) rfl (ltb rfl) ?_
      change GG _ _ _ _ _ _ _ _ _ _ [some (.int v0), some (.long (v1 * 9)), none, some (.int (v3 + 1))] _
      refine G_goto 4 dX8_power_18 (by decide) ?_
      exact ih hf
def f_X8_power (N : Nat)  (a0 : Int32) : Option (Int64) :=
  f_X8_power_4 N N a0 1 0
set_option maxHeartbeats 4000000 in
set_option maxRecDepth 100000 in
theorem c_X8_power {N : Nat}    {a0 : Int32} {res : Int64} (hf : f_X8_power N a0 = some res) : Con mu_X8_power [.int a0] [] (some (.long res)) [] := by
  refine Con.mk (show plainName RX8 = true by decide +kernel) (leb rfl) (fun κ ω A ad => ?_)
  change GG mu_X8_power κ ω A (QR κ ω A ad (some (.long res)) []) ad 0 0 0 [] [some (.int a0), none, none, none] []
  refine G_lconst 1 dX8_power_0 (by decide) ?_
  refine G_lstore_n dX8_power_1 rfl (ltb rfl) ?_
  change GG _ _ _ _ _ _ _ _ _ _ [some (.int a0), some (.long 1), none, none] _
  refine G_iconst 0 dX8_power_2 (by decide) ?_
  refine G_istore_n dX8_power_3 rfl (ltb rfl) ?_
  change GG _ _ _ _ _ _ _ _ _ _ [some (.int a0), some (.long 1), none, some (.int 0)] _
  exact g_X8_power_4 N hf
set_option maxRecDepth 20000 in
theorem dX8_costBy_0 : decode cX8_costBy 0 = .ok (.iload_n 0, 1) := by decide +kernel
set_option maxRecDepth 20000 in
theorem dX8_costBy_1 : decode cX8_costBy 1 = .ok (.iconst 4, 1) := by decide +kernel
set_option maxRecDepth 20000 in
theorem dX8_costBy_2 : decode cX8_costBy 2 = .ok (.if_icmp .ne 22, 3) := by decide +kernel
set_option maxRecDepth 20000 in
theorem dX8_costBy_5 : decode cX8_costBy 5 = .ok (.iload_n 1, 1) := by decide +kernel
set_option maxRecDepth 20000 in
theorem dX8_costBy_6 : decode cX8_costBy 6 = .ok (.bipush 6, 2) := by decide +kernel
set_option maxRecDepth 20000 in
theorem dX8_costBy_8 : decode cX8_costBy 8 = .ok (.if_icmp .le 7, 3) := by decide +kernel
set_option maxRecDepth 20000 in
theorem dX8_costBy_11 : decode cX8_costBy 11 = .ok (.lconst 0, 1) := by decide +kernel
set_option maxRecDepth 20000 in
theorem dX8_costBy_12 : decode cX8_costBy 12 = .ok (.goto 11, 3) := by decide +kernel
set_option maxRecDepth 20000 in
theorem dX8_costBy_15 : decode cX8_costBy 15 = .ok (.bipush 6, 2) := by decide +kernel
set_option maxRecDepth 20000 in
theorem dX8_costBy_17 : decode cX8_costBy 17 = .ok (.iload_n 1, 1) := by decide +kernel
set_option maxRecDepth 20000 in
theorem dX8_costBy_18 : decode cX8_costBy 18 = .ok (.isub, 1) := by decide +kernel
set_option maxRecDepth 20000 in
theorem dX8_costBy_19 : decode cX8_costBy 19 = .ok (.invokestatic 134, 3) := by decide +kernel
set_option maxRecDepth 20000 in
theorem dX8_costBy_22 : decode cX8_costBy 22 = .ok (.lneg, 1) := by decide +kernel
set_option maxRecDepth 20000 in
theorem dX8_costBy_23 : decode cX8_costBy 23 = .ok (.lreturn, 1) := by decide +kernel
set_option maxRecDepth 20000 in
theorem dX8_costBy_24 : decode cX8_costBy 24 = .ok (.iload_n 0, 1) := by decide +kernel
set_option maxRecDepth 20000 in
theorem dX8_costBy_25 : decode cX8_costBy 25 = .ok (.iconst 5, 1) := by decide +kernel
set_option maxRecDepth 20000 in
theorem dX8_costBy_26 : decode cX8_costBy 26 = .ok (.if_icmp .ne 10, 3) := by decide +kernel
set_option maxRecDepth 20000 in
theorem dX8_costBy_29 : decode cX8_costBy 29 = .ok (.iload_n 1, 1) := by decide +kernel
set_option maxRecDepth 20000 in
theorem dX8_costBy_30 : decode cX8_costBy 30 = .ok (.iconst 1, 1) := by decide +kernel
set_option maxRecDepth 20000 in
theorem dX8_costBy_31 : decode cX8_costBy 31 = .ok (.isub, 1) := by decide +kernel
set_option maxRecDepth 20000 in
theorem dX8_costBy_32 : decode cX8_costBy 32 = .ok (.invokestatic 134, 3) := by decide +kernel
set_option maxRecDepth 20000 in
theorem dX8_costBy_35 : decode cX8_costBy 35 = .ok (.lreturn, 1) := by decide +kernel
set_option maxRecDepth 20000 in
theorem dX8_costBy_36 : decode cX8_costBy 36 = .ok (.iload_n 1, 1) := by decide +kernel
set_option maxRecDepth 20000 in
theorem dX8_costBy_37 : decode cX8_costBy 37 = .ok (.bipush 6, 2) := by decide +kernel
set_option maxRecDepth 20000 in
theorem dX8_costBy_39 : decode cX8_costBy 39 = .ok (.if_icmp .le 9, 3) := by decide +kernel
set_option maxRecDepth 20000 in
theorem dX8_costBy_42 : decode cX8_costBy 42 = .ok (.ldc2_w 138, 3) := by decide +kernel
set_option maxRecDepth 20000 in
theorem dX8_costBy_45 : decode cX8_costBy 45 = .ok (.goto 5, 3) := by decide +kernel
set_option maxRecDepth 20000 in
theorem dX8_costBy_48 : decode cX8_costBy 48 = .ok (.iload_n 1, 1) := by decide +kernel
set_option maxRecDepth 20000 in
theorem dX8_costBy_49 : decode cX8_costBy 49 = .ok (.i2l, 1) := by decide +kernel
set_option maxRecDepth 20000 in
theorem dX8_costBy_50 : decode cX8_costBy 50 = .ok (.lreturn, 1) := by decide +kernel
def f_X8_costBy (N : Nat)  (a0 : Int32) (a1 : Int32) : Option (Int64) :=
  (if a0 = 4 then
    (if a1 ≤ 6 then
      (f_X8_power N (6 - a1)).bind fun r7 =>
      some (-r7)
    else
      some 0)
  else
    (if a0 = 5 then
      (f_X8_power N (a1 - 1)).bind fun r4 =>
      some r4
    else
      (if a1 ≤ 6 then
        some a1.toInt64
      else
        some 1000)))
set_option maxHeartbeats 4000000 in
set_option maxRecDepth 100000 in
theorem c_X8_costBy {N : Nat}    {a0 : Int32} {a1 : Int32} {res : Int64} (hf : f_X8_costBy N a0 a1 = some res) : Con mu_X8_costBy [.int a0, .int a1] [] (some (.long res)) [] := by
  refine Con.mk (show plainName RX8 = true by decide +kernel) (leb rfl) (fun κ ω A ad => ?_)
  change GG mu_X8_costBy κ ω A (QR κ ω A ad (some (.long res)) []) ad 0 0 0 [] [some (.int a0), some (.int a1)] []
  refine G_iload_n dX8_costBy_0 rfl rfl ?_
  refine G_iconst 4 dX8_costBy_1 (by decide) ?_
  refine G_icmp_ne 24 dX8_costBy_2 (by decide) (fun h1 => ?_) (fun h1 => ?_)
  · replace hf := ob_f h1 hf
    refine G_iload_n dX8_costBy_24 rfl rfl ?_
    refine G_iconst 5 dX8_costBy_25 (by decide) ?_
    refine G_icmp_ne 36 dX8_costBy_26 (by decide) (fun h2 => ?_) (fun h2 => ?_)
    · replace hf := ob_f h2 hf
      refine G_iload_n dX8_costBy_36 rfl rfl ?_
      refine G_bipush 6 dX8_costBy_37 (by decide) ?_
      refine G_icmp_le 48 dX8_costBy_39 (by decide) (fun h3 => ?_) (fun h3 => ?_)
      · replace hf := ob_t h3 hf
        refine G_iload_n dX8_costBy_48 rfl rfl ?_
        refine G_i2l dX8_costBy_49 ?_
        obtain rfl := os hf
        exact G_lreturn dX8_costBy_50 rfl
      · replace hf := ob_f h3 hf
        refine G_ldc2 (v := 1000) dX8_costBy_42 k_X8_138 ?_
        refine G_goto 50 dX8_costBy_45 (by decide) ?_
        obtain rfl := os hf
        exact G_lreturn dX8_costBy_50 rfl
    · replace hf := ob_t h2 hf
      refine G_iload_n dX8_costBy_29 rfl rfl ?_
      refine G_iconst 1 dX8_costBy_30 (by decide) ?_
      refine G_isub dX8_costBy_31 ?_
      obtain ⟨r4, hc5, hf⟩ := ob hf
      refine G_callS (μ2 := mu_X8_power) (As := [.int (a1 - 1)]) (w2 := []) (wc := []) (wc2 := []) (rest := []) (rv := [.long r4]) [] [] [] [] (c_X8_power hc5) cw_X8_power m_X8_134 rfl dX8_costBy_32 rfl ⟨leb rfl, leb rfl⟩ ⟨rfl, rfl⟩ (Fit.mk rfl rfl rfl) rfl (leb rfl) (ROsub.nil rfl rfl) rfl ?_
      change GG _ _ _ _ _ _ _ _ _ [] [some (.int a0), some (.int a1)] [.long r4]
      obtain rfl := os hf
      exact G_lreturn dX8_costBy_35 rfl
  · replace hf := ob_t h1 hf
    refine G_iload_n dX8_costBy_5 rfl rfl ?_
    refine G_bipush 6 dX8_costBy_6 (by decide) ?_
    refine G_icmp_le 15 dX8_costBy_8 (by decide) (fun h6 => ?_) (fun h6 => ?_)
    · replace hf := ob_t h6 hf
      refine G_bipush 6 dX8_costBy_15 (by decide) ?_
      refine G_iload_n dX8_costBy_17 rfl rfl ?_
      refine G_isub dX8_costBy_18 ?_
      obtain ⟨r7, hc8, hf⟩ := ob hf
      refine G_callS (μ2 := mu_X8_power) (As := [.int (6 - a1)]) (w2 := []) (wc := []) (wc2 := []) (rest := []) (rv := [.long r7]) [] [] [] [] (c_X8_power hc8) cw_X8_power m_X8_134 rfl dX8_costBy_19 rfl ⟨leb rfl, leb rfl⟩ ⟨rfl, rfl⟩ (Fit.mk rfl rfl rfl) rfl (leb rfl) (ROsub.nil rfl rfl) rfl ?_
      change GG _ _ _ _ _ _ _ _ _ [] [some (.int a0), some (.int a1)] [.long r7]
      refine G_lneg dX8_costBy_22 ?_
      obtain rfl := os hf
      exact G_lreturn dX8_costBy_23 rfl
    · replace hf := ob_f h6 hf
      refine G_lconst 0 dX8_costBy_11 (by decide) ?_
      refine G_goto 23 dX8_costBy_12 (by decide) ?_
      obtain rfl := os hf
      exact G_lreturn dX8_costBy_23 rfl
