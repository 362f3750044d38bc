/-! printed by wip/gen: WishPlaces$Trade, part 0 -/
set_option maxRecDepth 100000 in
theorem uX6 : ∀ w ∈ u_ws RX6 TX6 6, w ∈ ALLW := by decide +kernel
theorem F_X6_9 : FLD RX6 9 6 0 (.object "WishPlaces$Board") true := ⟨RX6, TX6, 6, tyX6, rfl, by decide, uX6, all_of 145 (by decide +kernel) (by decide +kernel), tyX6_ok, rfl, nmX6, rfl⟩
theorem F_X6_15 : FLD RX6 15 6 1 (.array .int) true := ⟨RX6, TX6, 6, tyX6, rfl, by decide, uX6, all_of 146 (by decide +kernel) (by decide +kernel), tyX6_ok, rfl, nmX6, rfl⟩
theorem F_X6_19 : FLD RX6 19 6 2 (.array .int) true := ⟨RX6, TX6, 6, tyX6, rfl, by decide, uX6, all_of 148 (by decide +kernel) (by decide +kernel), tyX6_ok, rfl, nmX6, rfl⟩
theorem F_X6_22 : FLD RX6 22 6 3 (.array .int) true := ⟨RX6, TX6, 6, tyX6, rfl, by decide, uX6, all_of 150 (by decide +kernel) (by decide +kernel), tyX6_ok, rfl, nmX6, rfl⟩
theorem F_X6_25 : FLD RX6 25 6 4 (.array .int) true := ⟨RX6, TX6, 6, tyX6, rfl, by decide, uX6, all_of 151 (by decide +kernel) (by decide +kernel), tyX6_ok, rfl, nmX6, rfl⟩
theorem F_X6_28 : FLD RX6 28 6 5 (.array .int) true := ⟨RX6, TX6, 6, tyX6, rfl, by decide, uX6, all_of 152 (by decide +kernel) (by decide +kernel), tyX6_ok, rfl, nmX6, rfl⟩
theorem F_X6_47 : FLD RX6 47 0 0 .int false := ⟨RX0, TX0, 7, tyX0, rfl, by decide, uX0, all_of 31 (by decide +kernel) (by decide +kernel), tyX0_ok, rfl, nmX0, rfl⟩
theorem F_X6_61 : FLD RX6 61 0 1 .int false := ⟨RX0, TX0, 7, tyX0, rfl, by decide, uX0, all_of 38 (by decide +kernel) (by decide +kernel), tyX0_ok, rfl, nmX0, rfl⟩
theorem m_X6_31 : Cond.methodLink RX6 31 yX0_toldOf ∈ ALLW := all_of 488 (by decide +kernel) (by decide +kernel)
theorem m_X6_37 : Cond.methodLink RX6 37 yX6_findHolders ∈ ALLW := all_of 489 (by decide +kernel) (by decide +kernel)
theorem m_X6_40 : Cond.methodLink RX6 40 yX6_pointAll ∈ ALLW := all_of 497 (by decide +kernel) (by decide +kernel)
theorem m_X6_43 : Cond.methodLink RX6 43 yX6_serve ∈ ALLW := all_of 506 (by decide +kernel) (by decide +kernel)
theorem m_X6_51 : Cond.methodLink RX6 51 yX6_isLeft ∈ ALLW := all_of 493 (by decide +kernel) (by decide +kernel)
theorem m_X6_55 : Cond.methodLink RX6 55 yX6_targetOf ∈ ALLW := all_of 501 (by decide +kernel) (by decide +kernel)
theorem m_X6_58 : Cond.methodLink RX6 58 yX0_worthOf ∈ ALLW := all_of 505 (by decide +kernel) (by decide +kernel)
theorem m_X6_64 : Cond.methodLink RX6 64 yX6_isOnRing ∈ ALLW := all_of 510 (by decide +kernel) (by decide +kernel)
abbrev mu_X6_isLeft : KM := (yX6_isLeft, cX6_isLeft, 2, (some .boolean), { frames := 0, cells := 0, slots := 0, locals := 0 }, [], [])
def w_X6_isLeft (c_holds : Nat → Int32) (c_servedIn : Nat → Int32) : List mE := [.inr (6, [.ref 1000, .ref 1001, .ref 2, .ref 1, .ref 1002, .ref 1003]), .inl (0, 8, .inl c_holds), .inl (0, 8, .inl c_servedIn)]
theorem cw_X6_isLeft : CWv mu_X6_isLeft 1 := ⟨⟨all_of 496 (by decide +kernel) (by decide +kernel), all_of 5 (by decide +kernel) (by decide +kernel), by decide +kernel, by decide +kernel, by decide +kernel⟩, all_of 495 (by decide +kernel) (by decide +kernel), all_pr 19 (by decide +kernel) (by decide +kernel)⟩
abbrev mu_X6_findHolders : KM := (yX6_findHolders, cX6_findHolders, 3, none, { frames := 1, cells := 0, slots := 0, locals := 21 }, [], [])
def w_X6_findHolders (c_board_askers : Int32) (c_holderOf : Nat → Int32) (c_holds : Nat → Int32) (c_servedIn : Nat → Int32) (u_board_places : Int32) (u_board_age : Int32) : List mE := [.inr (6, [.ref 1, .ref 1000, .ref 4, .ref 3, .ref 1001, .ref 2]), .inr (0, [.int c_board_askers, .int u_board_places, .int u_board_age, .ref 1002, .ref 1003, .ref 1004, .ref 1005]), .inl (0, 6, .inl c_holderOf), .inl (0, 8, .inl c_holds), .inl (0, 8, .inl c_servedIn)]
theorem cw_X6_findHolders : CWv mu_X6_findHolders 0 := ⟨⟨all_of 492 (by decide +kernel) (by decide +kernel), all_of 5 (by decide +kernel) (by decide +kernel), by decide +kernel, by decide +kernel, by decide +kernel⟩, all_of 491 (by decide +kernel) (by decide +kernel), all_pr 18 (by decide +kernel) (by decide +kernel)⟩
abbrev mu_X6_targetOf : KM := (yX6_targetOf, cX6_targetOf, 5, (some .int), { frames := 1, cells := 0, slots := 0, locals := 23 }, [], [])
def w_X6_targetOf (c_board_places : Int32) (c_holderOf : Nat → Int32) (c_holds : Nat → Int32) (c_board_wishes : Nat → Int32) (u_board_askers : Int32) (u_board_age : Int32) : List mE := [.inr (6, [.ref 1, .ref 1000, .ref 1001, .ref 3, .ref 1002, .ref 2]), .inr (0, [.int u_board_askers, .int c_board_places, .int u_board_age, .ref 1003, .ref 4, .ref 1004, .ref 1005]), .inl (0, 6, .inl c_holderOf), .inl (0, 8, .inl c_holds), .inl (0, 48, .inl c_board_wishes)]
theorem cw_X6_targetOf : CWv mu_X6_targetOf 1 := ⟨⟨all_of 504 (by decide +kernel) (by decide +kernel), all_of 5 (by decide +kernel) (by decide +kernel), by decide +kernel, by decide +kernel, by decide +kernel⟩, all_of 503 (by decide +kernel) (by decide +kernel), all_pr 21 (by decide +kernel) (by decide +kernel)⟩
abbrev mu_X6_pointAll : KM := (yX6_pointAll, cX6_pointAll, 2, none, { frames := 2, cells := 0, slots := 0, locals := 47 }, [], [])
def w_X6_pointAll (c_board_askers : Int32) (c_board_places : Int32) (c_holderOf : Nat → Int32) (c_holds : Nat → Int32) (c_pointsAt : Nat → Int32) (c_servedIn : Nat → Int32) (c_board_wishes : Nat → Int32) (u_board_age : Int32) : List mE := [.inr (6, [.ref 1, .ref 1000, .ref 5, .ref 3, .ref 4, .ref 2]), .inr (0, [.int c_board_askers, .int c_board_places, .int u_board_age, .ref 1001, .ref 6, .ref 1002, .ref 1003]), .inl (0, 6, .inl c_holderOf), .inl (0, 8, .inl c_holds), .inl (0, 8, .inl c_pointsAt), .inl (0, 8, .inl c_servedIn), .inl (0, 48, .inl c_board_wishes)]
theorem cw_X6_pointAll : CWv mu_X6_pointAll 0 := ⟨⟨all_of 500 (by decide +kernel) (by decide +kernel), all_of 5 (by decide +kernel) (by decide +kernel), by decide +kernel, by decide +kernel, by decide +kernel⟩, all_of 499 (by decide +kernel) (by decide +kernel), all_pr 20 (by decide +kernel) (by decide +kernel)⟩
abbrev mu_X6_isOnRing : KM := (yX6_isOnRing, cX6_isOnRing, 4, (some .boolean), { frames := 0, cells := 0, slots := 0, locals := 0 }, [], [])
def w_X6_isOnRing (c_pointsAt : Nat → Int32) : List mE := [.inr (6, [.ref 1000, .ref 1001, .ref 1002, .ref 1003, .ref 1, .ref 1004]), .inl (0, 8, .inl c_pointsAt)]
theorem cw_X6_isOnRing : CWv mu_X6_isOnRing 1 := ⟨⟨all_of 513 (by decide +kernel) (by decide +kernel), all_of 5 (by decide +kernel) (by decide +kernel), by decide +kernel, by decide +kernel, by decide +kernel⟩, all_of 512 (by decide +kernel) (by decide +kernel), all_pr 23 (by decide +kernel) (by decide +kernel)⟩
abbrev mu_X6_serve : KM := (yX6_serve, cX6_serve, 5, (some .int), { frames := 1, cells := 0, slots := 0, locals := 23 }, [], [])
def w_X6_serve (c_board_askers : Int32) (c_gets : Nat → Int32) (c_holds : Nat → Int32) (c_pointsAt : Nat → Int32) (c_servedIn : Nat → Int32) (u_board_places : Int32) (u_board_age : Int32) : List mE := [.inr (6, [.ref 1, .ref 2, .ref 5, .ref 3, .ref 4, .ref 1000]), .inr (0, [.int c_board_askers, .int u_board_places, .int u_board_age, .ref 1001, .ref 1002, .ref 1003, .ref 1004]), .inl (0, 8, .inl c_gets), .inl (0, 8, .inl c_holds), .inl (0, 8, .inl c_pointsAt), .inl (0, 8, .inl c_servedIn)]
theorem cw_X6_serve : CWv mu_X6_serve 1 := ⟨⟨all_of 509 (by decide +kernel) (by decide +kernel), all_of 5 (by decide +kernel) (by decide +kernel), by decide +kernel, by decide +kernel, by decide +kernel⟩, all_of 508 (by decide +kernel) (by decide +kernel), all_pr 22 (by decide +kernel) (by decide +kernel)⟩
abbrev mu_X6_run : KM := (yX6_run, cX6_run, 4, none, { frames := 3, cells := 0, slots := 0, locals := 68 }, [], [])
def w_X6_run (c_board_askers : Int32) (c_board_places : Int32) (c_gets : Nat → Int32) (c_holderOf : Nat → Int32) (c_holds : Nat → Int32) (c_pointsAt : Nat → Int32) (c_servedIn : Nat → Int32) (c_board_told : Nat → Int32) (c_board_wishes : Nat → Int32) (u_board_age : Int32) : List mE := [.inr (6, [.ref 1, .ref 2, .ref 6, .ref 4, .ref 5, .ref 3]), .inr (0, [.int c_board_askers, .int c_board_places, .int u_board_age, .ref 1000, .ref 8, .ref 1001, .ref 7]), .inl (0, 8, .inl c_gets), .inl (0, 6, .inl c_holderOf), .inl (0, 8, .inl c_holds), .inl (0, 8, .inl c_pointsAt), .inl (0, 8, .inl c_servedIn), .inl (0, 32, .inl c_board_told), .inl (0, 48, .inl c_board_wishes)]
theorem cw_X6_run : CWv mu_X6_run 1 := ⟨⟨all_of 487 (by decide +kernel) (by decide +kernel), all_of 5 (by decide +kernel) (by decide +kernel), by decide +kernel, by decide +kernel, by decide +kernel⟩, all_of 485 (by decide +kernel) (by decide +kernel), all_of 486 (by decide +kernel) (by decide +kernel)⟩
set_option maxRecDepth 20000 in
theorem dX6_isLeft_0 : decode cX6_isLeft 0 = .ok (.aload_n 0, 1) := by decide +kernel
set_option maxRecDepth 20000 in
theorem dX6_isLeft_1 : decode cX6_isLeft 1 = .ok (.getfield 22, 3) := by decide +kernel
set_option maxRecDepth 20000 in
theorem dX6_isLeft_4 : decode cX6_isLeft 4 = .ok (.iload_n 1, 1) := by decide +kernel
set_option maxRecDepth 20000 in
theorem dX6_isLeft_5 : decode cX6_isLeft 5 = .ok (.iaload, 1) := by decide +kernel
set_option maxRecDepth 20000 in
theorem dX6_isLeft_6 : decode cX6_isLeft 6 = .ok (.iconst (-1), 1) := by decide +kernel
set_option maxRecDepth 20000 in
theorem dX6_isLeft_7 : decode cX6_isLeft 7 = .ok (.if_icmp .eq 16, 3) := by decide +kernel
set_option maxRecDepth 20000 in
theorem dX6_isLeft_10 : decode cX6_isLeft 10 = .ok (.aload_n 0, 1) := by decide +kernel
set_option maxRecDepth 20000 in
theorem dX6_isLeft_11 : decode cX6_isLeft 11 = .ok (.getfield 19, 3) := by decide +kernel
set_option maxRecDepth 20000 in
theorem dX6_isLeft_14 : decode cX6_isLeft 14 = .ok (.iload_n 1, 1) := by decide +kernel
set_option maxRecDepth 20000 in
theorem dX6_isLeft_15 : decode cX6_isLeft 15 = .ok (.iaload, 1) := by decide +kernel
set_option maxRecDepth 20000 in
theorem dX6_isLeft_16 : decode cX6_isLeft 16 = .ok (.ifCond .ne 7, 3) := by decide +kernel
set_option maxRecDepth 20000 in
theorem dX6_isLeft_19 : decode cX6_isLeft 19 = .ok (.iconst 1, 1) := by decide +kernel
set_option maxRecDepth 20000 in
theorem dX6_isLeft_20 : decode cX6_isLeft 20 = .ok (.goto 4, 3) := by decide +kernel
set_option maxRecDepth 20000 in
theorem dX6_isLeft_23 : decode cX6_isLeft 23 = .ok (.iconst 0, 1) := by decide +kernel
set_option maxRecDepth 20000 in
theorem dX6_isLeft_24 : decode cX6_isLeft 24 = .ok (.ireturn, 1) := by decide +kernel
def f_X6_isLeft (N : Nat) (c_holds : Nat → Int32) (c_servedIn : Nat → Int32) (a1 : Int32) : Option (Int32) :=
  (rdI 8 c_holds a1).bind fun t1 =>
  (if t1 = (-1 : Int32) then
    some 0
  else
    (rdI 8 c_servedIn a1).bind fun t3 =>
    (if t3 = 0 then
      some 1
    else
      some 0))
set_option maxHeartbeats 4000000 in
set_option maxRecDepth 100000 in
theorem c_X6_isLeft {N : Nat} {c_holds : Nat → Int32} {c_servedIn : Nat → Int32}   {a1 : Int32} {res : Int32} (hf : f_X6_isLeft N c_holds c_servedIn a1 = some res) : Con mu_X6_isLeft [.ref 0, .int a1] (w_X6_isLeft c_holds c_servedIn) (some (.int res)) (w_X6_isLeft c_holds c_servedIn) := by
  refine Con.mk (show plainName RX6 = true by decide +kernel) (leb rfl) (fun κ ω A ad => ?_)
  change GG mu_X6_isLeft κ ω A (QR κ ω A ad (some (.int res)) (w_X6_isLeft c_holds c_servedIn)) ad 0 0 0 (w_X6_isLeft c_holds c_servedIn) [some (.ref 0), some (.int a1)] []
  refine G_aload_n dX6_isLeft_0 rfl rfl ?_
  refine G_get (v := .ref 1) F_X6_22 dX6_isLeft_1 rfl rfl ?_
  refine G_iload_n dX6_isLeft_4 rfl rfl ?_
  obtain ⟨t1, ht1, hf⟩ := ob hf
  refine G_iald dX6_isLeft_5 rfl ht1 ?_
  refine G_iconst (-1 : Int32) dX6_isLeft_6 (by decide) ?_
  refine G_icmp_eq 23 dX6_isLeft_7 (by decide) (fun h2 => ?_) (fun h2 => ?_)
  · replace hf := ob_t h2 hf
    refine G_iconst 0 dX6_isLeft_23 (by decide) ?_
    obtain rfl := os hf
    exact G_zreturn dX6_isLeft_24 rfl z_0
  · replace hf := ob_f h2 hf
    refine G_aload_n dX6_isLeft_10 rfl rfl ?_
    refine G_get (v := .ref 2) F_X6_19 dX6_isLeft_11 rfl rfl ?_
    refine G_iload_n dX6_isLeft_14 rfl rfl ?_
    obtain ⟨t3, ht3, hf⟩ := ob hf
    refine G_iald dX6_isLeft_15 rfl ht3 ?_
    refine G_if_ne 23 dX6_isLeft_16 (by decide) (fun h4 => ?_) (fun h4 => ?_)
    · replace hf := ob_f h4 hf
      refine G_iconst 0 dX6_isLeft_23 (by decide) ?_
      obtain rfl := os hf
      exact G_zreturn dX6_isLeft_24 rfl z_0
    · replace hf := ob_t h4 hf
      refine G_iconst 1 dX6_isLeft_19 (by decide) ?_
      refine G_goto 24 dX6_isLeft_20 (by decide) ?_
      obtain rfl := os hf
      exact G_zreturn dX6_isLeft_24 rfl z_1
set_option maxRecDepth 20000 in
theorem dX6_findHolders_0 : decode cX6_findHolders 0 = .ok (.iconst 0, 1) := by decide +kernel
set_option maxRecDepth 20000 in
theorem dX6_findHolders_1 : decode cX6_findHolders 1 = .ok (.istore_n 1, 1) := by decide +kernel
set_option maxRecDepth 20000 in
theorem dX6_findHolders_2 : decode cX6_findHolders 2 = .ok (.iload_n 1, 1) := by decide +kernel
set_option maxRecDepth 20000 in
theorem dX6_findHolders_3 : decode cX6_findHolders 3 = .ok (.bipush 6, 2) := by decide +kernel
set_option maxRecDepth 20000 in
theorem dX6_findHolders_5 : decode cX6_findHolders 5 = .ok (.if_icmp .ge 16, 3) := by decide +kernel
set_option maxRecDepth 20000 in
theorem dX6_findHolders_8 : decode cX6_findHolders 8 = .ok (.aload_n 0, 1) := by decide +kernel
set_option maxRecDepth 20000 in
theorem dX6_findHolders_9 : decode cX6_findHolders 9 = .ok (.getfield 28, 3) := by decide +kernel
set_option maxRecDepth 20000 in
theorem dX6_findHolders_12 : decode cX6_findHolders 12 = .ok (.iload_n 1, 1) := by decide +kernel
set_option maxRecDepth 20000 in
theorem dX6_findHolders_13 : decode cX6_findHolders 13 = .ok (.iconst (-1), 1) := by decide +kernel
set_option maxRecDepth 20000 in
theorem dX6_findHolders_14 : decode cX6_findHolders 14 = .ok (.iastore, 1) := by decide +kernel
set_option maxRecDepth 20000 in
theorem dX6_findHolders_15 : decode cX6_findHolders 15 = .ok (.iinc 1 1, 3) := by decide +kernel
set_option maxRecDepth 20000 in
theorem dX6_findHolders_18 : decode cX6_findHolders 18 = .ok (.goto (-16), 3) := by decide +kernel
set_option maxRecDepth 20000 in
theorem dX6_findHolders_21 : decode cX6_findHolders 21 = .ok (.aload_n 0, 1) := by decide +kernel
set_option maxRecDepth 20000 in
theorem dX6_findHolders_22 : decode cX6_findHolders 22 = .ok (.getfield 9, 3) := by decide +kernel
set_option maxRecDepth 20000 in
theorem dX6_findHolders_25 : decode cX6_findHolders 25 = .ok (.getfield 47, 3) := by decide +kernel
set_option maxRecDepth 20000 in
theorem dX6_findHolders_28 : decode cX6_findHolders 28 = .ok (.iconst 1, 1) := by decide +kernel
set_option maxRecDepth 20000 in
theorem dX6_findHolders_29 : decode cX6_findHolders 29 = .ok (.isub, 1) := by decide +kernel
set_option maxRecDepth 20000 in
theorem dX6_findHolders_30 : decode cX6_findHolders 30 = .ok (.istore_n 1, 1) := by decide +kernel
set_option maxRecDepth 20000 in
theorem dX6_findHolders_31 : decode cX6_findHolders 31 = .ok (.iload_n 1, 1) := by decide +kernel
set_option maxRecDepth 20000 in
theorem dX6_findHolders_32 : decode cX6_findHolders 32 = .ok (.ifCond .lt 41, 3) := by decide +kernel
set_option maxRecDepth 20000 in
theorem dX6_findHolders_35 : decode cX6_findHolders 35 = .ok (.aload_n 0, 1) := by decide +kernel
set_option maxRecDepth 20000 in
theorem dX6_findHolders_36 : decode cX6_findHolders 36 = .ok (.getfield 22, 3) := by decide +kernel
set_option maxRecDepth 20000 in
theorem dX6_findHolders_39 : decode cX6_findHolders 39 = .ok (.iload_n 1, 1) := by decide +kernel
set_option maxRecDepth 20000 in
theorem dX6_findHolders_40 : decode cX6_findHolders 40 = .ok (.iaload, 1) := by decide +kernel
set_option maxRecDepth 20000 in
theorem dX6_findHolders_41 : decode cX6_findHolders 41 = .ok (.istore_n 2, 1) := by decide +kernel
set_option maxRecDepth 20000 in
theorem dX6_findHolders_42 : decode cX6_findHolders 42 = .ok (.aload_n 0, 1) := by decide +kernel
set_option maxRecDepth 20000 in
theorem dX6_findHolders_43 : decode cX6_findHolders 43 = .ok (.iload_n 1, 1) := by decide +kernel
set_option maxRecDepth 20000 in
theorem dX6_findHolders_44 : decode cX6_findHolders 44 = .ok (.invokevirtual 51, 3) := by decide +kernel
set_option maxRecDepth 20000 in
theorem dX6_findHolders_47 : decode cX6_findHolders 47 = .ok (.ifCond .eq 20, 3) := by decide +kernel
set_option maxRecDepth 20000 in
theorem dX6_findHolders_50 : decode cX6_findHolders 50 = .ok (.iload_n 2, 1) := by decide +kernel
set_option maxRecDepth 20000 in
theorem dX6_findHolders_51 : decode cX6_findHolders 51 = .ok (.ifCond .lt 16, 3) := by decide +kernel
set_option maxRecDepth 20000 in
theorem dX6_findHolders_54 : decode cX6_findHolders 54 = .ok (.iload_n 2, 1) := by decide +kernel
set_option maxRecDepth 20000 in
theorem dX6_findHolders_55 : decode cX6_findHolders 55 = .ok (.bipush 6, 2) := by decide +kernel
set_option maxRecDepth 20000 in
theorem dX6_findHolders_57 : decode cX6_findHolders 57 = .ok (.if_icmp .ge 10, 3) := by decide +kernel
set_option maxRecDepth 20000 in
theorem dX6_findHolders_60 : decode cX6_findHolders 60 = .ok (.aload_n 0, 1) := by decide +kernel
set_option maxRecDepth 20000 in
theorem dX6_findHolders_61 : decode cX6_findHolders 61 = .ok (.getfield 28, 3) := by decide +kernel
set_option maxRecDepth 20000 in
theorem dX6_findHolders_64 : decode cX6_findHolders 64 = .ok (.iload_n 2, 1) := by decide +kernel
set_option maxRecDepth 20000 in
theorem dX6_findHolders_65 : decode cX6_findHolders 65 = .ok (.iload_n 1, 1) := by decide +kernel
set_option maxRecDepth 20000 in
theorem dX6_findHolders_66 : decode cX6_findHolders 66 = .ok (.iastore, 1) := by decide +kernel
set_option maxRecDepth 20000 in
theorem dX6_findHolders_67 : decode cX6_findHolders 67 = .ok (.iinc 1 (-1), 3) := by decide +kernel
set_option maxRecDepth 20000 in
theorem dX6_findHolders_70 : decode cX6_findHolders 70 = .ok (.goto (-39), 3) := by decide +kernel
set_option maxRecDepth 20000 in
theorem dX6_findHolders_73 : decode cX6_findHolders 73 = .ok (.return_, 1) := by decide +kernel
def f_X6_findHolders_31 (N : Nat) (c_board_askers : Int32) (c_holds : Nat → Int32) (c_servedIn : Nat → Int32) : Nat → (Nat → Int32) → Int32 → Option ((Nat → Int32))
  | 0, _, _ => none
  | n + 1, c_holderOf, v1 =>
    (if v1 < 0 then
      some c_holderOf
    else
      (rdI 8 c_holds v1).bind fun t2 =>
      (f_X6_isLeft N c_holds c_servedIn v1).bind fun r3 =>
      (if r3 = 0 then
        f_X6_findHolders_31 N c_board_askers c_holds c_servedIn n c_holderOf (v1 + (-1))
      else
        (if t2 < 0 then
          f_X6_findHolders_31 N c_board_askers c_holds c_servedIn n c_holderOf (v1 + (-1))
        else
          (if 6 ≤ t2 then
            f_X6_findHolders_31 N c_board_askers c_holds c_servedIn n c_holderOf (v1 + (-1))
          else
            (wrI 6 c_holderOf t2 v1).bind fun t8 =>
            f_X6_findHolders_31 N c_board_askers c_holds c_servedIn n t8 (v1 + (-1))))))
set_option maxHeartbeats 4000000 in
set_option maxRecDepth 100000 in
theorem g_X6_findHolders_31 {κ : KC} {ω : KW} {A : Nat → Prop} {ad : Nat → Nat} {u_board_places : Int32} {u_board_age : Int32} {N : Nat} {c_board_askers : Int32} {c_holds : Nat → Int32} {c_servedIn : Nat → Int32}  {res : (Nat → Int32)} : ∀ (n : Nat) {c_holderOf : Nat → Int32} {v1 : Int32}, f_X6_findHolders_31 N c_board_askers c_holds c_servedIn n c_holderOf v1 = some res → GG mu_X6_findHolders κ ω A (QR κ ω A ad (none) (w_X6_findHolders c_board_askers res c_holds c_servedIn u_board_places u_board_age)) ad 0 0 31 (w_X6_findHolders c_board_askers c_holderOf c_holds c_servedIn u_board_places u_board_age) [some (.ref 0), some (.int v1), none] [] := by
  intro n
  induction n with
  | zero => intro c_holderOf v1 hf; exact ob_0 hf
  | succ n ih =>
    intro c_holderOf v1 hf
    refine G_iload_n dX6_findHolders_31 rfl rfl ?_
    refine G_if_lt 73 dX6_findHolders_32 (by decide) (fun h1 => ?_) (fun h1 => ?_)
    · replace hf := ob_t h1 hf
      obtain rfl := os hf
      exact G_return dX6_findHolders_73 rfl
    · replace hf := ob_f h1 hf
      refine G_aload_n dX6_findHolders_35 rfl rfl ?_
      refine G_get (v := .ref 3) F_X6_22 dX6_findHolders_36 rfl rfl ?_
      refine G_iload_n dX6_findHolders_39 rfl rfl ?_
      obtain ⟨t2, ht2, hf⟩ := ob hf
      refine G_iald dX6_findHolders_40 rfl ht2 ?_
      refine G_istore_n dX6_findHolders_41 rfl (ltb rfl) ?_
      change GG _ _ _ _ _ _ _ _ _ _ [some (.ref 0), some (.int v1), some (.int t2)] _
      refine G_aload_n dX6_findHolders_42 rfl rfl ?_
      refine G_iload_n dX6_findHolders_43 rfl rfl ?_
      obtain ⟨r3, hc4, hf⟩ := ob hf
      refine G_callV (μ2 := mu_X6_isLeft) (As := [.int v1]) (w2 := (w_X6_findHolders c_board_askers c_holderOf c_holds c_servedIn u_board_places u_board_age)) (wc := (w_X6_isLeft c_holds c_servedIn)) (wc2 := (w_X6_isLeft c_holds c_servedIn)) (rest := []) (rv := [.int r3]) [0, 3, 4] [1, 1000, 1001, 2] [1, 2] [2, 0, 1, 3, 4] (c_X6_isLeft hc4) cw_X6_isLeft m_X6_51 dX6_findHolders_44 rfl ⟨leb rfl, leb rfl⟩ ⟨rfl, rfl⟩ rfl ⟨_, rfl, rfl⟩ (Fit.mk rfl rfl rfl) rfl (leb rfl) (ROsub.nil rfl rfl) rfl ?_
      change GG _ _ _ _ _ _ _ _ _ (w_X6_findHolders c_board_askers c_holderOf c_holds c_servedIn u_board_places u_board_age) [some (.ref 0), some (.int v1), some (.int t2)] [.int r3]
      refine G_if_eq 67 dX6_findHolders_47 (by decide) (fun h5 => ?_) (fun h5 => ?_)
      · replace hf := ob_t h5 hf
        refine G_iinc (-1) dX6_findHolders_67 (by decide) rfl (ltb rfl) ?_
        change GG _ _ _ _ _ _ _ _ _ _ [some (.ref 0), some (.int (v1 + (-1))), some (.int t2)] _
        refine G_goto 31 dX6_findHolders_70 (by decide) ?_
        refine GG.sb (lv2 := [some (.ref 0), some (.int (v1 + (-1))), none]) ?_ (lvS_v rfl (lvS_v rfl (lvS_n (lvS_e))))
        exact ih hf
      · replace hf := ob_f h5 hf
        refine G_iload_n dX6_findHolders_50 rfl rfl ?_
        refine G_if_lt 67 dX6_findHolders_51 (by decide) (fun h6 => ?_) (fun h6 => ?_)
        · replace hf := ob_t h6 hf
          refine G_iinc (-1) dX6_findHolders_67 (by decide) rfl (ltb rfl) ?_
          change GG _ _ _ _ _ _ _ _ _ _ [some (.ref 0), some (.int (v1 + (-1))), some (.int t2)] _
          refine G_goto 31 dX6_findHolders_70 (by decide) ?_
          refine GG.sb (lv2 := [some (.ref 0), some (.int (v1 + (-1))), none]) ?_ (lvS_v rfl (lvS_v rfl (lvS_n (lvS_e))))
          exact ih hf
        · replace hf := ob_f h6 hf
          refine G_iload_n dX6_findHolders_54 rfl rfl ?_
          refine G_bipush 6 dX6_findHolders_55 (by decide) ?_
          refine G_icmp_ge 67 dX6_findHolders_57 (by decide) (fun h7 => ?_) (fun h7 => ?_)
          · replace hf := ob_t h7 hf
            refine G_iinc (-1) dX6_findHolders_67 (by decide) rfl (ltb rfl) ?_
            change GG _ _ _ _ _ _ _ _ _ _ [some (.ref 0), some (.int (v1 + (-1))), some (.int t2)] _
            refine G_goto 31 dX6_findHolders_70 (by decide) ?_
            refine GG.sb (lv2 := [some (.ref 0), some (.int (v1 + (-1))), none]) ?_ (lvS_v rfl (lvS_v rfl (lvS_n (lvS_e))))
            exact ih hf
          · replace hf := ob_f h7 hf
            refine G_aload_n dX6_findHolders_60 rfl rfl ?_
            refine G_get (v := .ref 2) F_X6_28 dX6_findHolders_61 rfl rfl ?_
            refine G_iload_n dX6_findHolders_64 rfl rfl ?_
            refine G_iload_n dX6_findHolders_65 rfl rfl ?_
            obtain ⟨t8, ht8, hf⟩ := ob hf
            refine G_iast (w2 := (w_X6_findHolders c_board_askers t8 c_holds c_servedIn u_board_places u_board_age)) dX6_findHolders_66 rfl ht8 rfl ?_
            refine G_iinc (-1) dX6_findHolders_67 (by decide) rfl (ltb rfl) ?_
            change GG _ _ _ _ _ _ _ _ _ _ [some (.ref 0), some (.int (v1 + (-1))), some (.int t2)] _
            refine G_goto 31 dX6_findHolders_70 (by decide) ?_
            refine GG.sb (lv2 := [some (.ref 0), some (.int (v1 + (-1))), none]) ?_ (lvS_v rfl (lvS_v rfl (lvS_n (lvS_e))))
            exact ih hf
def f_X6_findHolders_2 (N : Nat) (c_board_askers : Int32) (c_holds : Nat → Int32) (c_servedIn : Nat → Int32) : Nat → (Nat → Int32) → Int32 → Option ((Nat → Int32))
  | 0, _, _ => none
  | n + 1, c_holderOf, v1 =>
    (if 6 ≤ v1 then
      f_X6_findHolders_31 N c_board_askers c_holds c_servedIn N c_holderOf (c_board_askers - 1)
    else
      (wrI 6 c_holderOf v1 (-1 : Int32)).bind fun t2 =>
      f_X6_findHolders_2 N c_board_askers c_holds c_servedIn n t2 (v1 + 1))
set_option maxHeartbeats 4000000 in
set_option maxRecDepth 100000 in
theorem g_X6_findHolders_2 {κ : KC} {ω : KW} {A : Nat → Prop} {ad : Nat → Nat} {u_board_places : Int32} {u_board_age : Int32} {N : Nat} {c_board_askers : Int32} {c_holds : Nat → Int32} {c_servedIn : Nat → Int32}  {res : (Nat → Int32)} : ∀ (n : Nat) {c_holderOf : Nat → Int32} {v1 : Int32}, f_X6_findHolders_2 N c_board_askers c_holds c_servedIn n c_holderOf v1 = some res → GG mu_X6_findHolders κ ω A (QR κ ω A ad (none) (w_X6_findHolders c_board_askers res c_holds c_servedIn u_board_places u_board_age)) ad 0 0 2 (w_X6_findHolders c_board_askers c_holderOf c_holds c_servedIn u_board_places u_board_age) [some (.ref 0), some (.int v1), none] [] := by
  intro n
  induction n with
  | zero => intro c_holderOf v1 hf; exact ob_0 hf
  | succ n ih =>
    intro c_holderOf v1 hf
    refine G_iload_n dX6_findHolders_2 rfl rfl ?_
    refine G_bipush 6 dX6_findHolders_3 (by decide) ?_
    refine G_icmp_ge 21 dX6_findHolders_5 (by decide) (fun h1 => ?_) (fun h1 => ?_)
    · replace hf := ob_t h1 hf
      refine G_aload_n dX6_findHolders_21 rfl rfl ?_
      refine G_get (v := .ref 1) F_X6_9 dX6_findHolders_22 rfl rfl ?_
      refine G_get (v := .int c_board_askers) F_X6_47 dX6_findHolders_25 rfl rfl ?_
      refine G_iconst 1 dX6_findHolders_28 (by decide) ?_
      refine G_isub dX6_findHolders_29 ?_
      refine G_istore_n dX6_findHolders_30 rfl (ltb rfl) ?_
      change GG _ _ _ _ _ _ _ _ _ _ [some (.ref 0), some (.int (c_board_askers - 1)), none] _
      exact g_X6_findHolders_31 N hf
    · replace hf := ob_f h1 hf
      refine G_aload_n dX6_findHolders_8 rfl rfl ?_
      refine G_get (v := .ref 2) F_X6_28 dX6_findHolders_9 rfl rfl ?_
      refine G_iload_n dX6_findHolders_12 rfl rfl ?_
      refine G_iconst (-1 : Int32) dX6_findHolders_13 (by decide) ?_
      obtain ⟨t2, ht2, hf⟩ := ob hf
      refine G_iast (w2 := (w_X6_findHolders c_board_askers t2 c_holds c_servedIn u_board_places u_board_age)) dX6_findHolders_14 rfl ht2 rfl ?_
      refine G_iinc 1 dX6_findHolders_15 (by decide) rfl (ltb rfl) ?_
      change GG _ _ _ _ _ _ _ _ _ _ [some (.ref 0), some (.int (v1 + 1)), none] _
      refine G_goto 2 dX6_findHolders_18 (by decide) ?_
      exact ih hf
def f_X6_findHolders (N : Nat) (c_board_askers : Int32) (c_holds : Nat → Int32) (c_servedIn : Nat → Int32) (c_holderOf : Nat → Int32)  : Option ((Nat → Int32)) :=
  f_X6_findHolders_2 N c_board_askers c_holds c_servedIn N c_holderOf 0
set_option maxHeartbeats 4000000 in
set_option maxRecDepth 100000 in
theorem c_X6_findHolders {N : Nat} {c_board_askers : Int32} {c_holds : Nat → Int32} {c_servedIn : Nat → Int32} {c_holderOf : Nat → Int32} {u_board_places : Int32} {u_board_age : Int32}  {res : (Nat → Int32)} (hf : f_X6_findHolders N c_board_askers c_holds c_servedIn c_holderOf = some res) : Con mu_X6_findHolders [.ref 0] (w_X6_findHolders c_board_askers c_holderOf c_holds c_servedIn u_board_places u_board_age) (none) (w_X6_findHolders c_board_askers res c_holds c_servedIn u_board_places u_board_age) := by
  refine Con.mk (show plainName RX6 = true by decide +kernel) (leb rfl) (fun κ ω A ad => ?_)
  change GG mu_X6_findHolders κ ω A (QR κ ω A ad (none) (w_X6_findHolders c_board_askers res c_holds c_servedIn u_board_places u_board_age)) ad 0 0 0 (w_X6_findHolders c_board_askers c_holderOf c_holds c_servedIn u_board_places u_board_age) [some (.ref 0), none, none] []
  refine G_iconst 0 dX6_findHolders_0 (by decide) ?_
  refine G_istore_n dX6_findHolders_1 rfl (ltb rfl) ?_
  change GG _ _ _ _ _ _ _ _ _ _ [some (.ref 0), some (.int 0), none] _
  exact g_X6_findHolders_2 N hf
set_option maxRecDepth 20000 in
theorem dX6_targetOf_0 : decode cX6_targetOf 0 = .ok (.iload_n 1, 1) := by decide +kernel
set_option maxRecDepth 20000 in
theorem dX6_targetOf_1 : decode cX6_targetOf 1 = .ok (.istore_n 2, 1) := by decide +kernel
set_option maxRecDepth 20000 in
theorem dX6_targetOf_2 : decode cX6_targetOf 2 = .ok (.aload_n 0, 1) := by decide +kernel
set_option maxRecDepth 20000 in
theorem dX6_targetOf_3 : decode cX6_targetOf 3 = .ok (.getfield 9, 3) := by decide +kernel
set_option maxRecDepth 20000 in
theorem dX6_targetOf_6 : decode cX6_targetOf 6 = .ok (.iload_n 1, 1) := by decide +kernel
set_option maxRecDepth 20000 in
theorem dX6_targetOf_7 : decode cX6_targetOf 7 = .ok (.aload_n 0, 1) := by decide +kernel
set_option maxRecDepth 20000 in
theorem dX6_targetOf_8 : decode cX6_targetOf 8 = .ok (.getfield 22, 3) := by decide +kernel
set_option maxRecDepth 20000 in
theorem dX6_targetOf_11 : decode cX6_targetOf 11 = .ok (.iload_n 1, 1) := by decide +kernel
set_option maxRecDepth 20000 in
theorem dX6_targetOf_12 : decode cX6_targetOf 12 = .ok (.iaload, 1) := by decide +kernel
set_option maxRecDepth 20000 in
theorem dX6_targetOf_13 : decode cX6_targetOf 13 = .ok (.invokevirtual 58, 3) := by decide +kernel
set_option maxRecDepth 20000 in
theorem dX6_targetOf_16 : decode cX6_targetOf 16 = .ok (.istore_n 3, 1) := by decide +kernel
set_option maxRecDepth 20000 in
theorem dX6_targetOf_17 : decode cX6_targetOf 17 = .ok (.iconst 0, 1) := by decide +kernel
set_option maxRecDepth 20000 in
theorem dX6_targetOf_18 : decode cX6_targetOf 18 = .ok (.istore 4, 2) := by decide +kernel
set_option maxRecDepth 20000 in
theorem dX6_targetOf_20 : decode cX6_targetOf 20 = .ok (.iload 4, 2) := by decide +kernel
set_option maxRecDepth 20000 in
theorem dX6_targetOf_22 : decode cX6_targetOf 22 = .ok (.aload_n 0, 1) := by decide +kernel
set_option maxRecDepth 20000 in
theorem dX6_targetOf_23 : decode cX6_targetOf 23 = .ok (.getfield 9, 3) := by decide +kernel
set_option maxRecDepth 20000 in
theorem dX6_targetOf_26 : decode cX6_targetOf 26 = .ok (.getfield 61, 3) := by decide +kernel
set_option maxRecDepth 20000 in
theorem dX6_targetOf_29 : decode cX6_targetOf 29 = .ok (.if_icmp .ge 53, 3) := by decide +kernel
set_option maxRecDepth 20000 in
theorem dX6_targetOf_32 : decode cX6_targetOf 32 = .ok (.aload_n 0, 1) := by decide +kernel
set_option maxRecDepth 20000 in
theorem dX6_targetOf_33 : decode cX6_targetOf 33 = .ok (.getfield 28, 3) := by decide +kernel
set_option maxRecDepth 20000 in
theorem dX6_targetOf_36 : decode cX6_targetOf 36 = .ok (.iload 4, 2) := by decide +kernel
set_option maxRecDepth 20000 in
theorem dX6_targetOf_38 : decode cX6_targetOf 38 = .ok (.iaload, 1) := by decide +kernel
set_option maxRecDepth 20000 in
theorem dX6_targetOf_39 : decode cX6_targetOf 39 = .ok (.iconst (-1), 1) := by decide +kernel
set_option maxRecDepth 20000 in
theorem dX6_targetOf_40 : decode cX6_targetOf 40 = .ok (.if_icmp .eq 36, 3) := by decide +kernel
set_option maxRecDepth 20000 in
theorem dX6_targetOf_43 : decode cX6_targetOf 43 = .ok (.aload_n 0, 1) := by decide +kernel
set_option maxRecDepth 20000 in
theorem dX6_targetOf_44 : decode cX6_targetOf 44 = .ok (.getfield 9, 3) := by decide +kernel
set_option maxRecDepth 20000 in
theorem dX6_targetOf_47 : decode cX6_targetOf 47 = .ok (.iload_n 1, 1) := by decide +kernel
set_option maxRecDepth 20000 in
theorem dX6_targetOf_48 : decode cX6_targetOf 48 = .ok (.iload 4, 2) := by decide +kernel
set_option maxRecDepth 20000 in
theorem dX6_targetOf_50 : decode cX6_targetOf 50 = .ok (.invokevirtual 58, 3) := by decide +kernel
set_option maxRecDepth 20000 in
theorem dX6_targetOf_53 : decode cX6_targetOf 53 = .ok (.iload_n 3, 1) := by decide +kernel
set_option maxRecDepth 20000 in
theorem dX6_targetOf_54 : decode cX6_targetOf 54 = .ok (.if_icmp .ge 22, 3) := by decide +kernel
set_option maxRecDepth 20000 in
theorem dX6_targetOf_57 : decode cX6_targetOf 57 = .ok (.aload_n 0, 1) := by decide +kernel
set_option maxRecDepth 20000 in
theorem dX6_targetOf_58 : decode cX6_targetOf 58 = .ok (.getfield 9, 3) := by decide +kernel
set_option maxRecDepth 20000 in
theorem dX6_targetOf_61 : decode cX6_targetOf 61 = .ok (.iload_n 1, 1) := by decide +kernel
set_option maxRecDepth 20000 in
theorem dX6_targetOf_62 : decode cX6_targetOf 62 = .ok (.iload 4, 2) := by decide +kernel
set_option maxRecDepth 20000 in
theorem dX6_targetOf_64 : decode cX6_targetOf 64 = .ok (.invokevirtual 58, 3) := by decide +kernel
set_option maxRecDepth 20000 in
theorem dX6_targetOf_67 : decode cX6_targetOf 67 = .ok (.istore_n 3, 1) := by decide +kernel
set_option maxRecDepth 20000 in
theorem dX6_targetOf_68 : decode cX6_targetOf 68 = .ok (.aload_n 0, 1) := by decide +kernel
set_option maxRecDepth 20000 in
theorem dX6_targetOf_69 : decode cX6_targetOf 69 = .ok (.getfield 28, 3) := by decide +kernel
set_option maxRecDepth 20000 in
theorem dX6_targetOf_72 : decode cX6_targetOf 72 = .ok (.iload 4, 2) := by decide +kernel
set_option maxRecDepth 20000 in
theorem dX6_targetOf_74 : decode cX6_targetOf 74 = .ok (.iaload, 1) := by decide +kernel
set_option maxRecDepth 20000 in
theorem dX6_targetOf_75 : decode cX6_targetOf 75 = .ok (.istore_n 2, 1) := by decide +kernel
set_option maxRecDepth 20000 in
theorem dX6_targetOf_76 : decode cX6_targetOf 76 = .ok (.iinc 4 1, 3) := by decide +kernel
set_option maxRecDepth 20000 in
theorem dX6_targetOf_79 : decode cX6_targetOf 79 = .ok (.goto (-59), 3) := by decide +kernel
set_option maxRecDepth 20000 in
theorem dX6_targetOf_82 : decode cX6_targetOf 82 = .ok (.iload_n 2, 1) := by decide +kernel
set_option maxRecDepth 20000 in
theorem dX6_targetOf_83 : decode cX6_targetOf 83 = .ok (.ireturn, 1) := by decide +kernel
def f_X6_targetOf_20 (N : Nat) (c_board_places : Int32) (c_holderOf : Nat → Int32) (c_holds : Nat → Int32) (c_board_wishes : Nat → Int32) : Nat → Int32 → Int32 → Int32 → Int32 → Option (Int32)
  | 0, _, _, _, _ => none
  | n + 1, v1, v2, v3, v4 =>
    (if c_board_places ≤ v4 then
      some v2
    else
      (rdI 6 c_holderOf v4).bind fun t2 =>
      (if t2 = (-1 : Int32) then
        f_X6_targetOf_20 N c_board_places c_holderOf c_holds c_board_wishes n v1 v2 v3 (v4 + 1)
      else
        (f_X0_worthOf N c_board_wishes v1 v4).bind fun r4 =>
        (if v3 ≤ r4 then
          f_X6_targetOf_20 N c_board_places c_holderOf c_holds c_board_wishes n v1 v2 v3 (v4 + 1)
        else
          (f_X0_worthOf N c_board_wishes v1 v4).bind fun r7 =>
          (rdI 6 c_holderOf v4).bind fun t9 =>
          f_X6_targetOf_20 N c_board_places c_holderOf c_holds c_board_wishes n v1 t9 r7 (v4 + 1))))
set_option maxHeartbeats 4000000 in
set_option maxRecDepth 100000 in
theorem g_X6_targetOf_20 {κ : KC} {ω : KW} {A : Nat → Prop} {ad : Nat → Nat} {u_board_askers : Int32} {u_board_age : Int32} {N : Nat} {c_board_places : Int32} {c_holderOf : Nat → Int32} {c_holds : Nat → Int32} {c_board_wishes : Nat → Int32}  {res : Int32} : ∀ (n : Nat) {v1 : Int32} {v2 : Int32} {v3 : Int32} {v4 : Int32}, f_X6_targetOf_20 N c_board_places c_holderOf c_holds c_board_wishes n v1 v2 v3 v4 = some res → GG mu_X6_targetOf κ ω A (QR κ ω A ad (some (.int res)) (w_X6_targetOf c_board_places c_holderOf c_holds c_board_wishes u_board_askers u_board_age)) ad 0 0 20 (w_X6_targetOf c_board_places c_holderOf c_holds c_board_wishes u_board_askers u_board_age) [some (.ref 0), some (.int v1), some (.int v2), some (.int v3), some (.int v4)] [] := by
  intro n
  induction n with
  | zero => intro v1 v2 v3 v4 hf; exact ob_0 hf
  | succ n ih =>
    intro v1 v2 v3 v4 hf
    refine G_iload dX6_targetOf_20 rfl ?_
    refine G_aload_n dX6_targetOf_22 rfl rfl ?_
    refine G_get (v := .ref 1) F_X6_9 dX6_targetOf_23 rfl rfl ?_
    refine G_get (v := .int c_board_places) F_X6_61 dX6_targetOf_26 rfl rfl ?_
    refine G_icmp_ge 82 dX6_targetOf_29 (by decide) (fun h1 => ?_) (fun h1 => ?_)
    · replace hf := ob_t h1 hf
      refine G_iload_n dX6_targetOf_82 rfl rfl ?_
      obtain rfl := os hf
      exact G_ireturn dX6_targetOf_83 rfl
    · replace hf := ob_f h1 hf
      refine G_aload_n dX6_targetOf_32 rfl rfl ?_
      refine G_get (v := .ref 2) F_X6_28 dX6_targetOf_33 rfl rfl ?_
      refine G_iload dX6_targetOf_36 rfl ?_
      obtain ⟨t2, ht2, hf⟩ := ob hf
      refine G_iald dX6_targetOf_38 rfl ht2 ?_
      refine G_iconst (-1 : Int32) dX6_targetOf_39 (by decide) ?_
      refine G_icmp_eq 76 dX6_targetOf_40 (by decide) (fun h3 => ?_) (fun h3 => ?_)
      · replace hf := ob_t h3 hf
        refine G_iinc 1 dX6_targetOf_76 (by decide) rfl (ltb rfl) ?_
        change GG _ _ _ _ _ _ _ _ _ _ [some (.ref 0), some (.int v1), some (.int v2), some (.int v3), some (.int (v4 + 1))] _
        refine G_goto 20 dX6_targetOf_79 (by decide) ?_
        exact ih hf
      · replace hf := ob_f h3 hf
        refine G_aload_n dX6_targetOf_43 rfl rfl ?_
        refine G_get (v := .ref 1) F_X6_9 dX6_targetOf_44 rfl rfl ?_
        refine G_iload_n dX6_targetOf_47 rfl rfl ?_
        refine G_iload dX6_targetOf_48 rfl ?_
        obtain ⟨r4, hc5, hf⟩ := ob hf
        refine G_callV (μ2 := mu_X0_worthOf) (As := [.int v1, .int v4]) (w2 := (w_X6_targetOf c_board_places c_holderOf c_holds c_board_wishes u_board_askers u_board_age)) (wc := (w_X0_worthOf c_board_wishes u_board_askers c_board_places u_board_age)) (wc2 := (w_X0_worthOf c_board_wishes u_board_askers c_board_places u_board_age)) (rest := []) (rv := [.int r4]) [1, 4] [1003, 1004, 1005] [0, 2, 3] [0, 3, 1, 2, 4] (c_X0_worthOf hc5) cw_X0_worthOf m_X6_58 dX6_targetOf_50 rfl ⟨leb rfl, leb rfl⟩ ⟨rfl, rfl⟩ rfl ⟨_, rfl, rfl⟩ (Fit.mk rfl rfl rfl) rfl (leb rfl) (ROsub.nil rfl rfl) rfl ?_
        change GG _ _ _ _ _ _ _ _ _ (w_X6_targetOf c_board_places c_holderOf c_holds c_board_wishes u_board_askers u_board_age) [some (.ref 0), some (.int v1), some (.int v2), some (.int v3), some (.int v4)] [.int r4]
        refine G_iload_n dX6_targetOf_53 rfl rfl ?_
        refine G_icmp_ge 76 dX6_targetOf_54 (by decide) (fun h6 => ?_) (fun h6 => ?_)
        · replace hf := ob_t h6 hf
          refine G_iinc 1 dX6_targetOf_76 (by decide) rfl (ltb rfl) ?_
          change GG _ _ _ _ _ _ _ _ _ _ [some (.ref 0), some (.int v1), some (.int v2), some (.int v3), some (.int (v4 + 1))] _
          refine G_goto 20 dX6_targetOf_79 (by decide) ?_
          exact ih hf
        · replace hf := ob_f h6 hf
          refine G_aload_n dX6_targetOf_57 rfl rfl ?_
          refine G_get (v := .ref 1) F_X6_9 dX6_targetOf_58 rfl rfl ?_
          refine G_iload_n dX6_targetOf_61 rfl rfl ?_
          refine G_iload dX6_targetOf_62 rfl ?_
          obtain ⟨r7, hc8, hf⟩ := ob hf
          refine G_callV (μ2 := mu_X0_worthOf) (As := [.int v1, .int v4]) (w2 := (w_X6_targetOf c_board_places c_holderOf c_holds c_board_wishes u_board_askers u_board_age)) (wc := (w_X0_worthOf c_board_wishes u_board_askers c_board_places u_board_age)) (wc2 := (w_X0_worthOf c_board_wishes u_board_askers c_board_places u_board_age)) (rest := []) (rv := [.int r7]) [1, 4] [1003, 1004, 1005] [0, 2, 3] [0, 3, 1, 2, 4] (c_X0_worthOf hc8) cw_X0_worthOf m_X6_58 dX6_targetOf_64 rfl ⟨leb rfl, leb rfl⟩ ⟨rfl, rfl⟩ rfl ⟨_, rfl, rfl⟩ (Fit.mk rfl rfl rfl) rfl (leb rfl) (ROsub.nil rfl rfl) rfl ?_
          change GG _ _ _ _ _ _ _ _ _ (w_X6_targetOf c_board_places c_holderOf c_holds c_board_wishes u_board_askers u_board_age) [some (.ref 0), some (.int v1), some (.int v2), some (.int v3), some (.int v4)] [.int r7]
          refine G_istore_n dX6_targetOf_67 rfl (ltb rfl) ?_
          change GG _ _ _ _ _ _ _ _ _ _ [some (.ref 0), some (.int v1), some (.int v2), some (.int r7), some (.int v4)] _
          refine G_aload_n dX6_targetOf_68 rfl rfl ?_
          refine G_get (v := .ref 2) F_X6_28 dX6_targetOf_69 rfl rfl ?_
          refine G_iload dX6_targetOf_72 rfl ?_
          obtain ⟨t9, ht9, hf⟩ := ob hf
          refine G_iald dX6_targetOf_74 rfl ht9 ?_
          refine G_istore_n dX6_targetOf_75 rfl (ltb rfl) ?_
          change GG _ _ _ _ _ _ _ _ _ _ [some (.ref 0), some (.int v1), some (.int t9), some (.int r7), some (.int v4)] _
          refine G_iinc 1 dX6_targetOf_76 (by decide) rfl (ltb rfl) ?_
          change GG _ _ _ _ _ _ _ _ _ _ [some (.ref 0), some (.int v1), some (.int t9), some (.int r7), some (.int (v4 + 1))] _
          refine G_goto 20 dX6_targetOf_79 (by decide) ?_
          exact ih hf
def f_X6_targetOf (N : Nat) (c_board_places : Int32) (c_holderOf : Nat → Int32) (c_holds : Nat → Int32) (c_board_wishes : Nat → Int32) (a1 : Int32) : Option (Int32) :=
  (rdI 8 c_holds a1).bind fun t1 =>
  (f_X0_worthOf N c_board_wishes a1 t1).bind fun r2 =>
  f_X6_targetOf_20 N c_board_places c_holderOf c_holds c_board_wishes N a1 a1 r2 0
set_option maxHeartbeats 4000000 in
set_option maxRecDepth 100000 in
theorem c_X6_targetOf {N : Nat} {c_board_places : Int32} {c_holderOf : Nat → Int32} {c_holds : Nat → Int32} {c_board_wishes : Nat → Int32}  {u_board_askers : Int32} {u_board_age : Int32} {a1 : Int32} {res : Int32} (hf : f_X6_targetOf N c_board_places c_holderOf c_holds c_board_wishes a1 = some res) : Con mu_X6_targetOf [.ref 0, .int a1] (w_X6_targetOf c_board_places c_holderOf c_holds c_board_wishes u_board_askers u_board_age) (some (.int res)) (w_X6_targetOf c_board_places c_holderOf c_holds c_board_wishes u_board_askers u_board_age) := by
  refine Con.mk (show plainName RX6 = true by decide +kernel) (leb rfl) (fun κ ω A ad => ?_)
  change GG mu_X6_targetOf κ ω A (QR κ ω A ad (some (.int res)) (w_X6_targetOf c_board_places c_holderOf c_holds c_board_wishes u_board_askers u_board_age)) ad 0 0 0 (w_X6_targetOf c_board_places c_holderOf c_holds c_board_wishes u_board_askers u_board_age) [some (.ref 0), some (.int a1), none, none, none] []
  refine G_iload_n dX6_targetOf_0 rfl rfl ?_
  refine G_istore_n dX6_targetOf_1 rfl (ltb rfl) ?_
  change GG _ _ _ _ _ _ _ _ _ _ [some (.ref 0), some (.int a1), some (.int a1), none, none] _
  refine G_aload_n dX6_targetOf_2 rfl rfl ?_
  refine G_get (v := .ref 1) F_X6_9 dX6_targetOf_3 rfl rfl ?_
  refine G_iload_n dX6_targetOf_6 rfl rfl ?_
  refine G_aload_n dX6_targetOf_7 rfl rfl ?_
  refine G_get (v := .ref 3) F_X6_22 dX6_targetOf_8 rfl rfl ?_
  refine G_iload_n dX6_targetOf_11 rfl rfl ?_
  obtain ⟨t1, ht1, hf⟩ := ob hf
  refine G_iald dX6_targetOf_12 rfl ht1 ?_
  obtain ⟨r2, hc3, hf⟩ := ob hf
  refine G_callV (μ2 := mu_X0_worthOf) (As := [.int a1, .int t1]) (w2 := (w_X6_targetOf c_board_places c_holderOf c_holds c_board_wishes u_board_askers u_board_age)) (wc := (w_X0_worthOf c_board_wishes u_board_askers c_board_places u_board_age)) (wc2 := (w_X0_worthOf c_board_wishes u_board_askers c_board_places u_board_age)) (rest := []) (rv := [.int r2]) [1, 4] [1003, 1004, 1005] [0, 2, 3] [0, 3, 1, 2, 4] (c_X0_worthOf hc3) cw_X0_worthOf m_X6_58 dX6_targetOf_13 rfl ⟨leb rfl, leb rfl⟩ ⟨rfl, rfl⟩ rfl ⟨_, rfl, rfl⟩ (Fit.mk rfl rfl rfl) rfl (leb rfl) (ROsub.nil rfl rfl) rfl ?_
  change GG _ _ _ _ _ _ _ _ _ (w_X6_targetOf c_board_places c_holderOf c_holds c_board_wishes u_board_askers u_board_age) [some (.ref 0), some (.int a1), some (.int a1), none, none] [.int r2]
  refine G_istore_n dX6_targetOf_16 rfl (ltb rfl) ?_
  change GG _ _ _ _ _ _ _ _ _ _ [some (.ref 0), some (.int a1), some (.int a1), some (.int r2), none] _
  refine G_iconst 0 dX6_targetOf_17 (by decide) ?_
  refine G_istore dX6_targetOf_18 (ltb rfl) ?_
  change GG _ _ _ _ _ _ _ _ _ _ [some (.ref 0), some (.int a1), some (.int a1), some (.int r2), some (.int 0)] _
  exact g_X6_targetOf_20 N hf
set_option maxRecDepth 20000 in
theorem dX6_pointAll_0 : decode cX6_pointAll 0 = .ok (.iconst 0, 1) := by decide +kernel
set_option maxRecDepth 20000 in
theorem dX6_pointAll_1 : decode cX6_pointAll 1 = .ok (.istore_n 1, 1) := by decide +kernel
set_option maxRecDepth 20000 in
theorem dX6_pointAll_2 : decode cX6_pointAll 2 = .ok (.iload_n 1, 1) := by decide +kernel
set_option maxRecDepth 20000 in
theorem dX6_pointAll_3 : decode cX6_pointAll 3 = .ok (.aload_n 0, 1) := by decide +kernel
set_option maxRecDepth 20000 in
theorem dX6_pointAll_4 : decode cX6_pointAll 4 = .ok (.getfield 9, 3) := by decide +kernel
set_option maxRecDepth 20000 in
theorem dX6_pointAll_7 : decode cX6_pointAll 7 = .ok (.getfield 47, 3) := by decide +kernel
set_option maxRecDepth 20000 in
theorem dX6_pointAll_10 : decode cX6_pointAll 10 = .ok (.if_icmp .ge 35, 3) := by decide +kernel
set_option maxRecDepth 20000 in
theorem dX6_pointAll_13 : decode cX6_pointAll 13 = .ok (.aload_n 0, 1) := by decide +kernel
set_option maxRecDepth 20000 in
theorem dX6_pointAll_14 : decode cX6_pointAll 14 = .ok (.getfield 25, 3) := by decide +kernel
set_option maxRecDepth 20000 in
theorem dX6_pointAll_17 : decode cX6_pointAll 17 = .ok (.iload_n 1, 1) := by decide +kernel
set_option maxRecDepth 20000 in
theorem dX6_pointAll_18 : decode cX6_pointAll 18 = .ok (.iconst (-1), 1) := by decide +kernel
set_option maxRecDepth 20000 in
theorem dX6_pointAll_19 : decode cX6_pointAll 19 = .ok (.iastore, 1) := by decide +kernel
set_option maxRecDepth 20000 in
theorem dX6_pointAll_20 : decode cX6_pointAll 20 = .ok (.aload_n 0, 1) := by decide +kernel
set_option maxRecDepth 20000 in
theorem dX6_pointAll_21 : decode cX6_pointAll 21 = .ok (.iload_n 1, 1) := by decide +kernel
set_option maxRecDepth 20000 in
theorem dX6_pointAll_22 : decode cX6_pointAll 22 = .ok (.invokevirtual 51, 3) := by decide +kernel
set_option maxRecDepth 20000 in
theorem dX6_pointAll_25 : decode cX6_pointAll 25 = .ok (.ifCond .eq 14, 3) := by decide +kernel
set_option maxRecDepth 20000 in
theorem dX6_pointAll_28 : decode cX6_pointAll 28 = .ok (.aload_n 0, 1) := by decide +kernel
set_option maxRecDepth 20000 in
theorem dX6_pointAll_29 : decode cX6_pointAll 29 = .ok (.getfield 25, 3) := by decide +kernel
set_option maxRecDepth 20000 in
theorem dX6_pointAll_32 : decode cX6_pointAll 32 = .ok (.iload_n 1, 1) := by decide +kernel
set_option maxRecDepth 20000 in
theorem dX6_pointAll_33 : decode cX6_pointAll 33 = .ok (.aload_n 0, 1) := by decide +kernel
set_option maxRecDepth 20000 in
theorem dX6_pointAll_34 : decode cX6_pointAll 34 = .ok (.iload_n 1, 1) := by decide +kernel
set_option maxRecDepth 20000 in
theorem dX6_pointAll_35 : decode cX6_pointAll 35 = .ok (.invokevirtual 55, 3) := by decide +kernel
set_option maxRecDepth 20000 in
theorem dX6_pointAll_38 : decode cX6_pointAll 38 = .ok (.iastore, 1) := by decide +kernel
set_option maxRecDepth 20000 in
theorem dX6_pointAll_39 : decode cX6_pointAll 39 = .ok (.iinc 1 1, 3) := by decide +kernel
set_option maxRecDepth 20000 in
theorem dX6_pointAll_42 : decode cX6_pointAll 42 = .ok (.goto (-40), 3) := by decide +kernel
set_option maxRecDepth 20000 in
theorem dX6_pointAll_45 : decode cX6_pointAll 45 = .ok (.return_, 1) := by decide +kernel
def f_X6_pointAll_2 (N : Nat) (c_board_askers : Int32) (c_board_places : Int32) (c_holderOf : Nat → Int32) (c_holds : Nat → Int32) (c_servedIn : Nat → Int32) (c_board_wishes : Nat → Int32) : Nat → (Nat → Int32) → Int32 → Option ((Nat → Int32))
  | 0, _, _ => none
  | n + 1, c_pointsAt, v1 =>
    (if c_board_askers ≤ v1 then
      some c_pointsAt
    else
      (wrI 8 c_pointsAt v1 (-1 : Int32)).bind fun t2 =>
      (f_X6_isLeft N c_holds c_servedIn v1).bind fun r3 =>
      (if r3 = 0 then
        f_X6_pointAll_2 N c_board_askers c_board_places c_holderOf c_holds c_servedIn c_board_wishes n t2 (v1 + 1)
      else
        (f_X6_targetOf N c_board_places c_holderOf c_holds c_board_wishes v1).bind fun r6 =>
        (wrI 8 t2 v1 r6).bind fun t8 =>
        f_X6_pointAll_2 N c_board_askers c_board_places c_holderOf c_holds c_servedIn c_board_wishes n t8 (v1 + 1)))
set_option maxHeartbeats 4000000 in
set_option maxRecDepth 100000 in
theorem g_X6_pointAll_2 {κ : KC} {ω : KW} {A : Nat → Prop} {ad : Nat → Nat} {u_board_age : Int32} {N : Nat} {c_board_askers : Int32} {c_board_places : Int32} {c_holderOf : Nat → Int32} {c_holds : Nat → Int32} {c_servedIn : Nat → Int32} {c_board_wishes : Nat → Int32}  {res : (Nat → Int32)} : ∀ (n : Nat) {c_pointsAt : Nat → Int32} {v1 : Int32}, f_X6_pointAll_2 N c_board_askers c_board_places c_holderOf c_holds c_servedIn c_board_wishes n c_pointsAt v1 = some res → GG mu_X6_pointAll κ ω A (QR κ ω A ad (none) (w_X6_pointAll c_board_askers c_board_places c_holderOf c_holds res c_servedIn c_board_wishes u_board_age)) ad 0 0 2 (w_X6_pointAll c_board_askers c_board_places c_holderOf c_holds c_pointsAt c_servedIn c_board_wishes u_board_age) [some (.ref 0), some (.int v1)] [] := by
  intro n
  induction n with
  | zero => intro c_pointsAt v1 hf; exact ob_0 hf
  | succ n ih =>
    intro c_pointsAt v1 hf
    refine G_iload_n dX6_pointAll_2 rfl rfl ?_
    refine G_aload_n dX6_pointAll_3 rfl rfl ?_
    refine G_get (v := .ref 1) F_X6_9 dX6_pointAll_4 rfl rfl ?_
    refine G_get (v := .int c_board_askers) F_X6_47 dX6_pointAll_7 rfl rfl ?_
    refine G_icmp_ge 45 dX6_pointAll_10 (by decide) (fun h1 => ?_) (fun h1 => ?_)
    · replace hf := ob_t h1 hf
      obtain rfl := os hf
      exact G_return dX6_pointAll_45 rfl
    · replace hf := ob_f h1 hf
      refine G_aload_n dX6_pointAll_13 rfl rfl ?_
      refine G_get (v := .ref 4) F_X6_25 dX6_pointAll_14 rfl rfl ?_
      refine G_iload_n dX6_pointAll_17 rfl rfl ?_
      refine G_iconst (-1 : Int32) dX6_pointAll_18 (by decide) ?_
      obtain ⟨t2, ht2, hf⟩ := ob hf
      refine G_iast (w2 := (w_X6_pointAll c_board_askers c_board_places c_holderOf c_holds t2 c_servedIn c_board_wishes u_board_age)) dX6_pointAll_19 rfl ht2 rfl ?_
      refine G_aload_n dX6_pointAll_20 rfl rfl ?_
      refine G_iload_n dX6_pointAll_21 rfl rfl ?_
      obtain ⟨r3, hc4, hf⟩ := ob hf
      refine G_callV (μ2 := mu_X6_isLeft) (As := [.int v1]) (w2 := (w_X6_pointAll c_board_askers c_board_places c_holderOf c_holds t2 c_servedIn c_board_wishes u_board_age)) (wc := (w_X6_isLeft c_holds c_servedIn)) (wc2 := (w_X6_isLeft c_holds c_servedIn)) (rest := []) (rv := [.int r3]) [0, 3, 5] [1, 1000, 4, 2] [1, 2, 4, 6] [4, 0, 1, 5, 2, 6, 3] (c_X6_isLeft hc4) cw_X6_isLeft m_X6_51 dX6_pointAll_22 rfl ⟨leb rfl, leb rfl⟩ ⟨rfl, rfl⟩ rfl ⟨_, rfl, rfl⟩ (Fit.mk rfl rfl rfl) rfl (leb rfl) (ROsub.nil rfl rfl) rfl ?_
      change GG _ _ _ _ _ _ _ _ _ (w_X6_pointAll c_board_askers c_board_places c_holderOf c_holds t2 c_servedIn c_board_wishes u_board_age) [some (.ref 0), some (.int v1)] [.int r3]
      refine G_if_eq 39 dX6_pointAll_25 (by decide) (fun h5 => ?_) (fun h5 => ?_)
      · replace hf := ob_t h5 hf
        refine G_iinc 1 dX6_pointAll_39 (by decide) rfl (ltb rfl) ?_
        change GG _ _ _ _ _ _ _ _ _ _ [some (.ref 0), some (.int (v1 + 1))] _
        refine G_goto 2 dX6_pointAll_42 (by decide) ?_
        exact ih hf
      · replace hf := ob_f h5 hf
        refine G_aload_n dX6_pointAll_28 rfl rfl ?_
        refine G_get (v := .ref 4) F_X6_25 dX6_pointAll_29 rfl rfl ?_
        refine G_iload_n dX6_pointAll_32 rfl rfl ?_
        refine G_aload_n dX6_pointAll_33 rfl rfl ?_
        refine G_iload_n dX6_pointAll_34 rfl rfl ?_
        obtain ⟨r6, hc7, hf⟩ := ob hf
        refine G_callV (μ2 := mu_X6_targetOf) (As := [.int v1]) (w2 := (w_X6_pointAll c_board_askers c_board_places c_holderOf c_holds t2 c_servedIn c_board_wishes u_board_age)) (wc := (w_X6_targetOf c_board_places c_holderOf c_holds c_board_wishes c_board_askers u_board_age)) (wc2 := (w_X6_targetOf c_board_places c_holderOf c_holds c_board_wishes c_board_askers u_board_age)) (rest := [.int v1, .ref 4]) (rv := [.int r6]) [0, 1, 2, 3, 6] [1000, 5, 4, 1001, 1002, 1003] [4, 5] [2, 3, 4, 5, 0, 1, 6] (c_X6_targetOf hc7) cw_X6_targetOf m_X6_55 dX6_pointAll_35 rfl ⟨leb rfl, leb rfl⟩ ⟨rfl, rfl⟩ rfl ⟨_, rfl, rfl⟩ (Fit.mk rfl rfl rfl) rfl (leb rfl) (ROsub.nil rfl rfl) rfl ?_
        change GG _ _ _ _ _ _ _ _ _ (w_X6_pointAll c_board_askers c_board_places c_holderOf c_holds t2 c_servedIn c_board_wishes u_board_age) [some (.ref 0), some (.int v1)] [.int r6, .int v1, .ref 4]
        obtain ⟨t8, ht8, hf⟩ := ob hf
        refine G_iast (w2 := (w_X6_pointAll c_board_askers c_board_places c_holderOf c_holds t8 c_servedIn c_board_wishes u_board_age)) dX6_pointAll_38 rfl ht8 rfl ?_
        refine G_iinc 1 dX6_pointAll_39 (by decide) rfl (ltb rfl) ?_
        change GG _ _ _ _ _ _ _ _ _ _ [some (.ref 0), some (.int (v1 + 1))] _
        refine G_goto 2 dX6_pointAll_42 (by decide) ?_
        exact ih hf
def f_X6_pointAll (N : Nat) (c_board_askers : Int32) (c_board_places : Int32) (c_holderOf : Nat → Int32) (c_holds : Nat → Int32) (c_servedIn : Nat → Int32) (c_board_wishes : Nat → Int32) (c_pointsAt : Nat → Int32)  : Option ((Nat → Int32)) :=
  f_X6_pointAll_2 N c_board_askers c_board_places c_holderOf c_holds c_servedIn c_board_wishes N c_pointsAt 0
set_option maxHeartbeats 4000000 in
set_option maxRecDepth 100000 in
theorem c_X6_pointAll {N : Nat} {c_board_askers : Int32} {c_board_places : Int32} {c_holderOf : Nat → Int32} {c_holds : Nat → Int32} {c_servedIn : Nat → Int32} {c_board_wishes : Nat → Int32} {c_pointsAt : Nat → Int32} {u_board_age : Int32}  {res : (Nat → Int32)} (hf : f_X6_pointAll N c_board_askers c_board_places c_holderOf c_holds c_servedIn c_board_wishes c_pointsAt = some res) : Con mu_X6_pointAll [.ref 0] (w_X6_pointAll c_board_askers c_board_places c_holderOf c_holds c_pointsAt c_servedIn c_board_wishes u_board_age) (none) (w_X6_pointAll c_board_askers c_board_places c_holderOf c_holds res c_servedIn c_board_wishes u_board_age) := by
  refine Con.mk (show plainName RX6 = true by decide +kernel) (leb rfl) (fun κ ω A ad => ?_)
  change GG mu_X6_pointAll κ ω A (QR κ ω A ad (none) (w_X6_pointAll c_board_askers c_board_places c_holderOf c_holds res c_servedIn c_board_wishes u_board_age)) ad 0 0 0 (w_X6_pointAll c_board_askers c_board_places c_holderOf c_holds c_pointsAt c_servedIn c_board_wishes u_board_age) [some (.ref 0), none] []
  refine G_iconst 0 dX6_pointAll_0 (by decide) ?_
  refine G_istore_n dX6_pointAll_1 rfl (ltb rfl) ?_
  change GG _ _ _ _ _ _ _ _ _ _ [some (.ref 0), some (.int 0)] _
  exact g_X6_pointAll_2 N hf
set_option maxRecDepth 20000 in
theorem dX6_isOnRing_0 : decode cX6_isOnRing 0 = .ok (.aload_n 0, 1) := by decide +kernel
set_option maxRecDepth 20000 in
theorem dX6_isOnRing_1 : decode cX6_isOnRing 1 = .ok (.getfield 25, 3) := by decide +kernel
set_option maxRecDepth 20000 in
theorem dX6_isOnRing_4 : decode cX6_isOnRing 4 = .ok (.iload_n 1, 1) := by decide +kernel
set_option maxRecDepth 20000 in
theorem dX6_isOnRing_5 : decode cX6_isOnRing 5 = .ok (.iaload, 1) := by decide +kernel
set_option maxRecDepth 20000 in
theorem dX6_isOnRing_6 : decode cX6_isOnRing 6 = .ok (.istore_n 2, 1) := by decide +kernel
set_option maxRecDepth 20000 in
theorem dX6_isOnRing_7 : decode cX6_isOnRing 7 = .ok (.iconst 0, 1) := by decide +kernel
set_option maxRecDepth 20000 in
theorem dX6_isOnRing_8 : decode cX6_isOnRing 8 = .ok (.istore_n 3, 1) := by decide +kernel
set_option maxRecDepth 20000 in
theorem dX6_isOnRing_9 : decode cX6_isOnRing 9 = .ok (.iload_n 3, 1) := by decide +kernel
set_option maxRecDepth 20000 in
theorem dX6_isOnRing_10 : decode cX6_isOnRing 10 = .ok (.bipush 8, 2) := by decide +kernel
set_option maxRecDepth 20000 in
theorem dX6_isOnRing_12 : decode cX6_isOnRing 12 = .ok (.if_icmp .ge 31, 3) := by decide +kernel
set_option maxRecDepth 20000 in
theorem dX6_isOnRing_15 : decode cX6_isOnRing 15 = .ok (.iload_n 2, 1) := by decide +kernel
set_option maxRecDepth 20000 in
theorem dX6_isOnRing_16 : decode cX6_isOnRing 16 = .ok (.iload_n 1, 1) := by decide +kernel
set_option maxRecDepth 20000 in
theorem dX6_isOnRing_17 : decode cX6_isOnRing 17 = .ok (.if_icmp .eq 26, 3) := by decide +kernel
set_option maxRecDepth 20000 in
theorem dX6_isOnRing_20 : decode cX6_isOnRing 20 = .ok (.iload_n 2, 1) := by decide +kernel
set_option maxRecDepth 20000 in
theorem dX6_isOnRing_21 : decode cX6_isOnRing 21 = .ok (.ifCond .lt 22, 3) := by decide +kernel
set_option maxRecDepth 20000 in
theorem dX6_isOnRing_24 : decode cX6_isOnRing 24 = .ok (.iload_n 2, 1) := by decide +kernel
set_option maxRecDepth 20000 in
theorem dX6_isOnRing_25 : decode cX6_isOnRing 25 = .ok (.bipush 8, 2) := by decide +kernel
set_option maxRecDepth 20000 in
theorem dX6_isOnRing_27 : decode cX6_isOnRing 27 = .ok (.if_icmp .ge 16, 3) := by decide +kernel
set_option maxRecDepth 20000 in
theorem dX6_isOnRing_30 : decode cX6_isOnRing 30 = .ok (.aload_n 0, 1) := by decide +kernel
set_option maxRecDepth 20000 in
theorem dX6_isOnRing_31 : decode cX6_isOnRing 31 = .ok (.getfield 25, 3) := by decide +kernel
set_option maxRecDepth 20000 in
theorem dX6_isOnRing_34 : decode cX6_isOnRing 34 = .ok (.iload_n 2, 1) := by decide +kernel
set_option maxRecDepth 20000 in
theorem dX6_isOnRing_35 : decode cX6_isOnRing 35 = .ok (.iaload, 1) := by decide +kernel
set_option maxRecDepth 20000 in
theorem dX6_isOnRing_36 : decode cX6_isOnRing 36 = .ok (.istore_n 2, 1) := by decide +kernel
set_option maxRecDepth 20000 in
theorem dX6_isOnRing_37 : decode cX6_isOnRing 37 = .ok (.iinc 3 1, 3) := by decide +kernel
set_option maxRecDepth 20000 in
theorem dX6_isOnRing_40 : decode cX6_isOnRing 40 = .ok (.goto (-31), 3) := by decide +kernel
set_option maxRecDepth 20000 in
theorem dX6_isOnRing_43 : decode cX6_isOnRing 43 = .ok (.iload_n 2, 1) := by decide +kernel
set_option maxRecDepth 20000 in
theorem dX6_isOnRing_44 : decode cX6_isOnRing 44 = .ok (.iload_n 1, 1) := by decide +kernel
set_option maxRecDepth 20000 in
theorem dX6_isOnRing_45 : decode cX6_isOnRing 45 = .ok (.if_icmp .ne 7, 3) := by decide +kernel
set_option maxRecDepth 20000 in
theorem dX6_isOnRing_48 : decode cX6_isOnRing 48 = .ok (.iconst 1, 1) := by decide +kernel
set_option maxRecDepth 20000 in
theorem dX6_isOnRing_49 : decode cX6_isOnRing 49 = .ok (.goto 4, 3) := by decide +kernel
set_option maxRecDepth 20000 in
theorem dX6_isOnRing_52 : decode cX6_isOnRing 52 = .ok (.iconst 0, 1) := by decide +kernel
set_option maxRecDepth 20000 in
theorem dX6_isOnRing_53 : decode cX6_isOnRing 53 = .ok (.ireturn, 1) := by decide +kernel
def f_X6_isOnRing_43 (N : Nat) (c_pointsAt : Nat → Int32) (v1 : Int32) (v2 : Int32) : Option (Int32) :=
    (if v2 = v1 then
      some 1
    else
      some 0)
set_option maxHeartbeats 4000000 in
set_option maxRecDepth 100000 in
theorem g_X6_isOnRing_43 {κ : KC} {ω : KW} {A : Nat → Prop} {ad : Nat → Nat}  {N : Nat} {c_pointsAt : Nat → Int32}  {res : Int32} {v1 : Int32} {v2 : Int32} (hf : f_X6_isOnRing_43 N c_pointsAt v1 v2 = some res) : GG mu_X6_isOnRing κ ω A (QR κ ω A ad (some (.int res)) (w_X6_isOnRing c_pointsAt)) ad 0 0 43 (w_X6_isOnRing c_pointsAt) [none, some (.int v1), some (.int v2), none] [] := by
  refine G_iload_n dX6_isOnRing_43 rfl rfl ?_
  refine G_iload_n dX6_isOnRing_44 rfl rfl ?_
  refine G_icmp_ne 52 dX6_isOnRing_45 (by decide) (fun h1 => ?_) (fun h1 => ?_)
  · replace hf := ob_f h1 hf
    refine G_iconst 0 dX6_isOnRing_52 (by decide) ?_
    obtain rfl := os hf
    exact G_zreturn dX6_isOnRing_53 rfl z_0
  · replace hf := ob_t h1 hf
    refine G_iconst 1 dX6_isOnRing_48 (by decide) ?_
    refine G_goto 53 dX6_isOnRing_49 (by decide) ?_
    obtain rfl := os hf
    exact G_zreturn dX6_isOnRing_53 rfl z_1
def f_X6_isOnRing_9 (N : Nat) (c_pointsAt : Nat → Int32) : Nat → Int32 → Int32 → Int32 → Option (Int32)
  | 0, _, _, _ => none
  | n + 1, v1, v2, v3 =>
    (if 8 ≤ v3 then
      f_X6_isOnRing_43 N c_pointsAt v1 v2
    else
      (if v2 = v1 then
        f_X6_isOnRing_43 N c_pointsAt v1 v2
      else
        (if v2 < 0 then
          f_X6_isOnRing_43 N c_pointsAt v1 v2
        else
          (if 8 ≤ v2 then
            f_X6_isOnRing_43 N c_pointsAt v1 v2
          else
            (rdI 8 c_pointsAt v2).bind fun t5 =>
            f_X6_isOnRing_9 N c_pointsAt n v1 t5 (v3 + 1)))))
set_option maxHeartbeats 4000000 in
set_option maxRecDepth 100000 in
theorem g_X6_isOnRing_9 {κ : KC} {ω : KW} {A : Nat → Prop} {ad : Nat → Nat}  {N : Nat} {c_pointsAt : Nat → Int32}  {res : Int32} : ∀ (n : Nat) {v1 : Int32} {v2 : Int32} {v3 : Int32}, f_X6_isOnRing_9 N c_pointsAt n v1 v2 v3 = some res → GG mu_X6_isOnRing κ ω A (QR κ ω A ad (some (.int res)) (w_X6_isOnRing c_pointsAt)) ad 0 0 9 (w_X6_isOnRing c_pointsAt) [some (.ref 0), some (.int v1), some (.int v2), some (.int v3)] [] := by
  intro n
  induction n with
  | zero => intro v1 v2 v3 hf; exact ob_0 hf
  | succ n ih =>
    intro v1 v2 v3 hf
    refine G_iload_n dX6_isOnRing_9 rfl rfl ?_
    refine G_bipush 8 dX6_isOnRing_10 (by decide) ?_
    refine G_icmp_ge 43 dX6_isOnRing_12 (by decide) (fun h1 => ?_) (fun h1 => ?_)
    · replace hf := ob_t h1 hf
      refine GG.sb (lv2 := [none, some (.int v1), some (.int v2), none]) ?_ (lvS_n (lvS_v rfl (lvS_v rfl (lvS_n (lvS_e)))))
      exact g_X6_isOnRing_43 hf
    · replace hf := ob_f h1 hf
      refine G_iload_n dX6_isOnRing_15 rfl rfl ?_
      refine G_iload_n dX6_isOnRing_16 rfl rfl ?_
      refine G_icmp_eq 43 dX6_isOnRing_17 (by decide) (fun h2 => ?_) (fun h2 => ?_)
      · replace hf := ob_t h2 hf
        refine GG.sb (lv2 := [none, some (.int v1), some (.int v2), none]) ?_ (lvS_n (lvS_v rfl (lvS_v rfl (lvS_n (lvS_e)))))
        exact g_X6_isOnRing_43 hf
      · replace hf := ob_f h2 hf
        refine G_iload_n dX6_isOnRing_20 rfl rfl ?_
        refine G_if_lt 43 dX6_isOnRing_21 (by decide) (fun h3 => ?_) (fun h3 => ?_)
        · replace hf := ob_t h3 hf
          refine GG.sb (lv2 := [none, some (.int v1), some (.int v2), none]) ?_ (lvS_n (lvS_v rfl (lvS_v rfl (lvS_n (lvS_e)))))
          exact g_X6_isOnRing_43 hf
        · replace hf := ob_f h3 hf
          refine G_iload_n dX6_isOnRing_24 rfl rfl ?_
          refine G_bipush 8 dX6_isOnRing_25 (by decide) ?_
          refine G_icmp_ge 43 dX6_isOnRing_27 (by decide) (fun h4 => ?_) (fun h4 => ?_)
          · replace hf := ob_t h4 hf
            refine GG.sb (lv2 := [none, some (.int v1), some (.int v2), none]) ?_ (lvS_n (lvS_v rfl (lvS_v rfl (lvS_n (lvS_e)))))
            exact g_X6_isOnRing_43 hf
          · replace hf := ob_f h4 hf
            refine G_aload_n dX6_isOnRing_30 rfl rfl ?_
            refine G_get (v := .ref 1) F_X6_25 dX6_isOnRing_31 rfl rfl ?_
            refine G_iload_n dX6_isOnRing_34 rfl rfl ?_
            obtain ⟨t5, ht5, hf⟩ := ob hf
            refine G_iald dX6_isOnRing_35 rfl ht5 ?_
            refine G_istore_n dX6_isOnRing_36 rfl (ltb rfl) ?_
            change GG _ _ _ _ _ _ _ _ _ _ [some (.ref 0), some (.int v1), some (.int t5), some (.int v3)] _
            refine G_iinc 1 dX6_isOnRing_37 (by decide) rfl (ltb rfl) ?_
            change GG _ _ _ _ _ _ _ _ _ _ [some (.ref 0), some (.int v1), some (.int t5), some (.int (v3 + 1))] _
            refine G_goto 9 dX6_isOnRing_40 (by decide) ?_
            exact ih hf
def f_X6_isOnRing (N : Nat) (c_pointsAt : Nat → Int32) (a1 : Int32) : Option (Int32) :=
  (rdI 8 c_pointsAt a1).bind fun t1 =>
  f_X6_isOnRing_9 N c_pointsAt N a1 t1 0
set_option maxHeartbeats 4000000 in
set_option maxRecDepth 100000 in
theorem c_X6_isOnRing {N : Nat} {c_pointsAt : Nat → Int32}   {a1 : Int32} {res : Int32} (hf : f_X6_isOnRing N c_pointsAt a1 = some res) : Con mu_X6_isOnRing [.ref 0, .int a1] (w_X6_isOnRing c_pointsAt) (some (.int res)) (w_X6_isOnRing c_pointsAt) := by
  refine Con.mk (show plainName RX6 = true by decide +kernel) (leb rfl) (fun κ ω A ad => ?_)
  change GG mu_X6_isOnRing κ ω A (QR κ ω A ad (some (.int res)) (w_X6_isOnRing c_pointsAt)) ad 0 0 0 (w_X6_isOnRing c_pointsAt) [some (.ref 0), some (.int a1), none, none] []
  refine G_aload_n dX6_isOnRing_0 rfl rfl ?_
  refine G_get (v := .ref 1) F_X6_25 dX6_isOnRing_1 rfl rfl ?_
  refine G_iload_n dX6_isOnRing_4 rfl rfl ?_
  obtain ⟨t1, ht1, hf⟩ := ob hf
  refine G_iald dX6_isOnRing_5 rfl ht1 ?_
  refine G_istore_n dX6_isOnRing_6 rfl (ltb rfl) ?_
  change GG _ _ _ _ _ _ _ _ _ _ [some (.ref 0), some (.int a1), some (.int t1), none] _
  refine G_iconst 0 dX6_isOnRing_7 (by decide) ?_
  refine G_istore_n dX6_isOnRing_8 rfl (ltb rfl) ?_
  change GG _ _ _ _ _ _ _ _ _ _ [some (.ref 0), some (.int a1), some (.int t1), some (.int 0)] _
  exact g_X6_isOnRing_9 N hf
set_option maxRecDepth 20000 in
theorem dX6_serve_0 : decode cX6_serve 0 = .ok (.iconst 0, 1) := by decide +kernel
set_option maxRecDepth 20000 in
theorem dX6_serve_1 : decode cX6_serve 1 = .ok (.istore_n 2, 1) := by decide +kernel
set_option maxRecDepth 20000 in
theorem dX6_serve_2 : decode cX6_serve 2 = .ok (.iconst 0, 1) := by decide +kernel
set_option maxRecDepth 20000 in
theorem dX6_serve_3 : decode cX6_serve 3 = .ok (.istore_n 3, 1) := by decide +kernel
set_option maxRecDepth 20000 in
theorem dX6_serve_4 : decode cX6_serve 4 = .ok (.iload_n 3, 1) := by decide +kernel
set_option maxRecDepth 20000 in
theorem dX6_serve_5 : decode cX6_serve 5 = .ok (.aload_n 0, 1) := by decide +kernel
set_option maxRecDepth 20000 in
theorem dX6_serve_6 : decode cX6_serve 6 = .ok (.getfield 9, 3) := by decide +kernel
set_option maxRecDepth 20000 in
theorem dX6_serve_9 : decode cX6_serve 9 = .ok (.getfield 47, 3) := by decide +kernel
set_option maxRecDepth 20000 in
theorem dX6_serve_12 : decode cX6_serve 12 = .ok (.if_icmp .ge 60, 3) := by decide +kernel
set_option maxRecDepth 20000 in
theorem dX6_serve_15 : decode cX6_serve 15 = .ok (.aload_n 0, 1) := by decide +kernel
set_option maxRecDepth 20000 in
theorem dX6_serve_16 : decode cX6_serve 16 = .ok (.getfield 25, 3) := by decide +kernel
set_option maxRecDepth 20000 in
theorem dX6_serve_19 : decode cX6_serve 19 = .ok (.iload_n 3, 1) := by decide +kernel
set_option maxRecDepth 20000 in
theorem dX6_serve_20 : decode cX6_serve 20 = .ok (.iaload, 1) := by decide +kernel
set_option maxRecDepth 20000 in
theorem dX6_serve_21 : decode cX6_serve 21 = .ok (.istore 4, 2) := by decide +kernel
set_option maxRecDepth 20000 in
theorem dX6_serve_23 : decode cX6_serve 23 = .ok (.iload 4, 2) := by decide +kernel
set_option maxRecDepth 20000 in
theorem dX6_serve_25 : decode cX6_serve 25 = .ok (.ifCond .lt 41, 3) := by decide +kernel
set_option maxRecDepth 20000 in
theorem dX6_serve_28 : decode cX6_serve 28 = .ok (.iload 4, 2) := by decide +kernel
set_option maxRecDepth 20000 in
theorem dX6_serve_30 : decode cX6_serve 30 = .ok (.bipush 8, 2) := by decide +kernel
set_option maxRecDepth 20000 in
theorem dX6_serve_32 : decode cX6_serve 32 = .ok (.if_icmp .ge 34, 3) := by decide +kernel
set_option maxRecDepth 20000 in
theorem dX6_serve_35 : decode cX6_serve 35 = .ok (.aload_n 0, 1) := by decide +kernel
set_option maxRecDepth 20000 in
theorem dX6_serve_36 : decode cX6_serve 36 = .ok (.iload_n 3, 1) := by decide +kernel
set_option maxRecDepth 20000 in
theorem dX6_serve_37 : decode cX6_serve 37 = .ok (.invokevirtual 64, 3) := by decide +kernel
set_option maxRecDepth 20000 in
theorem dX6_serve_40 : decode cX6_serve 40 = .ok (.ifCond .eq 26, 3) := by decide +kernel
set_option maxRecDepth 20000 in
theorem dX6_serve_43 : decode cX6_serve 43 = .ok (.aload_n 0, 1) := by decide +kernel
set_option maxRecDepth 20000 in
theorem dX6_serve_44 : decode cX6_serve 44 = .ok (.getfield 15, 3) := by decide +kernel
set_option maxRecDepth 20000 in
theorem dX6_serve_47 : decode cX6_serve 47 = .ok (.iload_n 3, 1) := by decide +kernel
set_option maxRecDepth 20000 in
theorem dX6_serve_48 : decode cX6_serve 48 = .ok (.aload_n 0, 1) := by decide +kernel
set_option maxRecDepth 20000 in
theorem dX6_serve_49 : decode cX6_serve 49 = .ok (.getfield 22, 3) := by decide +kernel
set_option maxRecDepth 20000 in
theorem dX6_serve_52 : decode cX6_serve 52 = .ok (.iload 4, 2) := by decide +kernel
set_option maxRecDepth 20000 in
theorem dX6_serve_54 : decode cX6_serve 54 = .ok (.iaload, 1) := by decide +kernel
set_option maxRecDepth 20000 in
theorem dX6_serve_55 : decode cX6_serve 55 = .ok (.iastore, 1) := by decide +kernel
set_option maxRecDepth 20000 in
theorem dX6_serve_56 : decode cX6_serve 56 = .ok (.aload_n 0, 1) := by decide +kernel
set_option maxRecDepth 20000 in
theorem dX6_serve_57 : decode cX6_serve 57 = .ok (.getfield 19, 3) := by decide +kernel
set_option maxRecDepth 20000 in
theorem dX6_serve_60 : decode cX6_serve 60 = .ok (.iload_n 3, 1) := by decide +kernel
set_option maxRecDepth 20000 in
theorem dX6_serve_61 : decode cX6_serve 61 = .ok (.iload_n 1, 1) := by decide +kernel
set_option maxRecDepth 20000 in
theorem dX6_serve_62 : decode cX6_serve 62 = .ok (.iastore, 1) := by decide +kernel
set_option maxRecDepth 20000 in
theorem dX6_serve_63 : decode cX6_serve 63 = .ok (.iinc 2 1, 3) := by decide +kernel
set_option maxRecDepth 20000 in
theorem dX6_serve_66 : decode cX6_serve 66 = .ok (.iinc 3 1, 3) := by decide +kernel
set_option maxRecDepth 20000 in
theorem dX6_serve_69 : decode cX6_serve 69 = .ok (.goto (-65), 3) := by decide +kernel
set_option maxRecDepth 20000 in
theorem dX6_serve_72 : decode cX6_serve 72 = .ok (.iload_n 2, 1) := by decide +kernel
set_option maxRecDepth 20000 in
theorem dX6_serve_73 : decode cX6_serve 73 = .ok (.ireturn, 1) := by decide +kernel
def f_X6_serve_4 (N : Nat) (c_board_askers : Int32) (c_holds : Nat → Int32) (c_pointsAt : Nat → Int32) : Nat → (Nat → Int32) → (Nat → Int32) → Int32 → Int32 → Int32 → Option (Int32 × (Nat → Int32) × (Nat → Int32))
  | 0, _, _, _, _, _ => none
  | n + 1, c_gets, c_servedIn, v1, v2, v3 =>
    (if c_board_askers ≤ v3 then
      some (v2, c_gets, c_servedIn)
    else
      (rdI 8 c_pointsAt v3).bind fun t2 =>
      (if t2 < 0 then
        f_X6_serve_4 N c_board_askers c_holds c_pointsAt n c_gets c_servedIn v1 v2 (v3 + 1)
      else
        (if 8 ≤ t2 then
          f_X6_serve_4 N c_board_askers c_holds c_pointsAt n c_gets c_servedIn v1 v2 (v3 + 1)
        else
          (f_X6_isOnRing N c_pointsAt v3).bind fun r5 =>
          (if r5 = 0 then
            f_X6_serve_4 N c_board_askers c_holds c_pointsAt n c_gets c_servedIn v1 v2 (v3 + 1)
          else
            (rdI 8 c_holds t2).bind fun t8 =>
            (wrI 8 c_gets v3 t8).bind fun t9 =>
            (wrI 8 c_servedIn v3 v1).bind fun t10 =>
            f_X6_serve_4 N c_board_askers c_holds c_pointsAt n t9 t10 v1 (v2 + 1) (v3 + 1)))))
set_option maxHeartbeats 4000000 in
set_option maxRecDepth 100000 in
theorem g_X6_serve_4 {κ : KC} {ω : KW} {A : Nat → Prop} {ad : Nat → Nat} {u_board_places : Int32} {u_board_age : Int32} {N : Nat} {c_board_askers : Int32} {c_holds : Nat → Int32} {c_pointsAt : Nat → Int32}  {res : Int32 × (Nat → Int32) × (Nat → Int32)} : ∀ (n : Nat) {c_gets : Nat → Int32} {c_servedIn : Nat → Int32} {v1 : Int32} {v2 : Int32} {v3 : Int32}, f_X6_serve_4 N c_board_askers c_holds c_pointsAt n c_gets c_servedIn v1 v2 v3 = some res → GG mu_X6_serve κ ω A (QR κ ω A ad (some (.int res.1)) (w_X6_serve c_board_askers res.2.1 c_holds c_pointsAt res.2.2 u_board_places u_board_age)) ad 0 0 4 (w_X6_serve c_board_askers c_gets c_holds c_pointsAt c_servedIn u_board_places u_board_age) [some (.ref 0), some (.int v1), some (.int v2), some (.int v3), none] [] := by
  intro n
  induction n with
  | zero => intro c_gets c_servedIn v1 v2 v3 hf; exact ob_0 hf
  | succ n ih =>
    intro c_gets c_servedIn v1 v2 v3 hf
    refine G_iload_n dX6_serve_4 rfl rfl ?_
    refine G_aload_n dX6_serve_5 rfl rfl ?_
    refine G_get (v := .ref 1) F_X6_9 dX6_serve_6 rfl rfl ?_
    refine G_get (v := .int c_board_askers) F_X6_47 dX6_serve_9 rfl rfl ?_
    refine G_icmp_ge 72 dX6_serve_12 (by decide) (fun h1 => ?_) (fun h1 => ?_)
    · replace hf := ob_t h1 hf
      refine G_iload_n dX6_serve_72 rfl rfl ?_
      obtain rfl := os hf
      exact G_ireturn dX6_serve_73 rfl
    · replace hf := ob_f h1 hf
      refine G_aload_n dX6_serve_15 rfl rfl ?_
      refine G_get (v := .ref 4) F_X6_25 dX6_serve_16 rfl rfl ?_
      refine G_iload_n dX6_serve_19 rfl rfl ?_
      obtain ⟨t2, ht2, hf⟩ := ob hf
      refine G_iald dX6_serve_20 rfl ht2 ?_
      refine G_istore dX6_serve_21 (ltb rfl) ?_
      change GG _ _ _ _ _ _ _ _ _ _ [some (.ref 0), some (.int v1), some (.int v2), some (.int v3), some (.int t2)] _
      refine G_iload dX6_serve_23 rfl ?_
      refine G_if_lt 66 dX6_serve_25 (by decide) (fun h3 => ?_) (fun h3 => ?_)
      · replace hf := ob_t h3 hf
        refine G_iinc 1 dX6_serve_66 (by decide) rfl (ltb rfl) ?_
        change GG _ _ _ _ _ _ _ _ _ _ [some (.ref 0), some (.int v1), some (.int v2), some (.int (v3 + 1)), some (.int t2)] _
        refine G_goto 4 dX6_serve_69 (by decide) ?_
        refine GG.sb (lv2 := [some (.ref 0), some (.int v1), some (.int v2), some (.int (v3 + 1)), none]) ?_ (lvS_v rfl (lvS_v rfl (lvS_v rfl (lvS_v rfl (lvS_n (lvS_e))))))
        exact ih hf
      · replace hf := ob_f h3 hf
        refine G_iload dX6_serve_28 rfl ?_
        refine G_bipush 8 dX6_serve_30 (by decide) ?_
        refine G_icmp_ge 66 dX6_serve_32 (by decide) (fun h4 => ?_) (fun h4 => ?_)
        · replace hf := ob_t h4 hf
          refine G_iinc 1 dX6_serve_66 (by decide) rfl (ltb rfl) ?_
          change GG _ _ _ _ _ _ _ _ _ _ [some (.ref 0), some (.int v1), some (.int v2), some (.int (v3 + 1)), some (.int t2)] _
          refine G_goto 4 dX6_serve_69 (by decide) ?_
          refine GG.sb (lv2 := [some (.ref 0), some (.int v1), some (.int v2), some (.int (v3 + 1)), none]) ?_ (lvS_v rfl (lvS_v rfl (lvS_v rfl (lvS_v rfl (lvS_n (lvS_e))))))
          exact ih hf
        · replace hf := ob_f h4 hf
          refine G_aload_n dX6_serve_35 rfl rfl ?_
          refine G_iload_n dX6_serve_36 rfl rfl ?_
          obtain ⟨r5, hc6, hf⟩ := ob hf
          refine G_callV (μ2 := mu_X6_isOnRing) (As := [.int v3]) (w2 := (w_X6_serve c_board_askers c_gets c_holds c_pointsAt c_servedIn u_board_places u_board_age)) (wc := (w_X6_isOnRing c_pointsAt)) (wc2 := (w_X6_isOnRing c_pointsAt)) (rest := []) (rv := [.int r5]) [0, 4] [1, 2, 5, 3, 1000] [1, 2, 3, 5] [4, 0, 1, 2, 5, 3] (c_X6_isOnRing hc6) cw_X6_isOnRing m_X6_64 dX6_serve_37 rfl ⟨leb rfl, leb rfl⟩ ⟨rfl, rfl⟩ rfl ⟨_, rfl, rfl⟩ (Fit.mk rfl rfl rfl) rfl (leb rfl) (ROsub.nil rfl rfl) rfl ?_
          change GG _ _ _ _ _ _ _ _ _ (w_X6_serve c_board_askers c_gets c_holds c_pointsAt c_servedIn u_board_places u_board_age) [some (.ref 0), some (.int v1), some (.int v2), some (.int v3), some (.int t2)] [.int r5]
          refine G_if_eq 66 dX6_serve_40 (by decide) (fun h7 => ?_) (fun h7 => ?_)
          · replace hf := ob_t h7 hf
            refine G_iinc 1 dX6_serve_66 (by decide) rfl (ltb rfl) ?_
            change GG _ _ _ _ _ _ _ _ _ _ [some (.ref 0), some (.int v1), some (.int v2), some (.int (v3 + 1)), some (.int t2)] _
            refine G_goto 4 dX6_serve_69 (by decide) ?_
            refine GG.sb (lv2 := [some (.ref 0), some (.int v1), some (.int v2), some (.int (v3 + 1)), none]) ?_ (lvS_v rfl (lvS_v rfl (lvS_v rfl (lvS_v rfl (lvS_n (lvS_e))))))
            exact ih hf
          · replace hf := ob_f h7 hf
            refine G_aload_n dX6_serve_43 rfl rfl ?_
            refine G_get (v := .ref 2) F_X6_15 dX6_serve_44 rfl rfl ?_
            refine G_iload_n dX6_serve_47 rfl rfl ?_
            refine G_aload_n dX6_serve_48 rfl rfl ?_
            refine G_get (v := .ref 3) F_X6_22 dX6_serve_49 rfl rfl ?_
            refine G_iload dX6_serve_52 rfl ?_
            obtain ⟨t8, ht8, hf⟩ := ob hf
            refine G_iald dX6_serve_54 rfl ht8 ?_
            obtain ⟨t9, ht9, hf⟩ := ob hf
            refine G_iast (w2 := (w_X6_serve c_board_askers t9 c_holds c_pointsAt c_servedIn u_board_places u_board_age)) dX6_serve_55 rfl ht9 rfl ?_
            refine G_aload_n dX6_serve_56 rfl rfl ?_
            refine G_get (v := .ref 5) F_X6_19 dX6_serve_57 rfl rfl ?_
            refine G_iload_n dX6_serve_60 rfl rfl ?_
            refine G_iload_n dX6_serve_61 rfl rfl ?_
            obtain ⟨t10, ht10, hf⟩ := ob hf
            refine G_iast (w2 := (w_X6_serve c_board_askers t9 c_holds c_pointsAt t10 u_board_places u_board_age)) dX6_serve_62 rfl ht10 rfl ?_
            refine G_iinc 1 dX6_serve_63 (by decide) rfl (ltb rfl) ?_
            change GG _ _ _ _ _ _ _ _ _ _ [some (.ref 0), some (.int v1), some (.int (v2 + 1)), some (.int v3), some (.int t2)] _
            refine G_iinc 1 dX6_serve_66 (by decide) rfl (ltb rfl) ?_
            change GG _ _ _ _ _ _ _ _ _ _ [some (.ref 0), some (.int v1), some (.int (v2 + 1)), some (.int (v3 + 1)), some (.int t2)] _
            refine G_goto 4 dX6_serve_69 (by decide) ?_
            refine GG.sb (lv2 := [some (.ref 0), some (.int v1), some (.int (v2 + 1)), some (.int (v3 + 1)), none]) ?_ (lvS_v rfl (lvS_v rfl (lvS_v rfl (lvS_v rfl (lvS_n (lvS_e))))))
            exact ih hf
def f_X6_serve (N : Nat) (c_board_askers : Int32) (c_holds : Nat → Int32) (c_pointsAt : Nat → Int32) (c_gets : Nat → Int32) (c_servedIn : Nat → Int32) (a1 : Int32) : Option (Int32 × (Nat → Int32) × (Nat → Int32)) :=
  f_X6_serve_4 N c_board_askers c_holds c_pointsAt N c_gets c_servedIn a1 0 0
set_option maxHeartbeats 4000000 in
set_option maxRecDepth 100000 in
theorem c_X6_serve {N : Nat} {c_board_askers : Int32} {c_holds : Nat → Int32} {c_pointsAt : Nat → Int32} {c_gets : Nat → Int32} {c_servedIn : Nat → Int32} {u_board_places : Int32} {u_board_age : Int32} {a1 : Int32} {res : Int32 × (Nat → Int32) × (Nat → Int32)} (hf : f_X6_serve N c_board_askers c_holds c_pointsAt c_gets c_servedIn a1 = some res) : Con mu_X6_serve [.ref 0, .int a1] (w_X6_serve c_board_askers c_gets c_holds c_pointsAt c_servedIn u_board_places u_board_age) (some (.int res.1)) (w_X6_serve c_board_askers res.2.1 c_holds c_pointsAt res.2.2 u_board_places u_board_age) := by
  refine Con.mk (show plainName RX6 = true by decide +kernel) (leb rfl) (fun κ ω A ad => ?_)
  change GG mu_X6_serve κ ω A (QR κ ω A ad (some (.int res.1)) (w_X6_serve c_board_askers res.2.1 c_holds c_pointsAt res.2.2 u_board_places u_board_age)) ad 0 0 0 (w_X6_serve c_board_askers c_gets c_holds c_pointsAt c_servedIn u_board_places u_board_age) [some (.ref 0), some (.int a1), none, none, none] []
  refine G_iconst 0 dX6_serve_0 (by decide) ?_
  refine G_istore_n dX6_serve_1 rfl (ltb rfl) ?_
  change GG _ _ _ _ _ _ _ _ _ _ [some (.ref 0), some (.int a1), some (.int 0), none, none] _
  refine G_iconst 0 dX6_serve_2 (by decide) ?_
  refine G_istore_n dX6_serve_3 rfl (ltb rfl) ?_
  change GG _ _ _ _ _ _ _ _ _ _ [some (.ref 0), some (.int a1), some (.int 0), some (.int 0), none] _
  exact g_X6_serve_4 N hf
set_option maxRecDepth 20000 in
theorem dX6_run_0 : decode cX6_run 0 = .ok (.iconst 0, 1) := by decide +kernel
set_option maxRecDepth 20000 in
theorem dX6_run_1 : decode cX6_run 1 = .ok (.istore_n 2, 1) := by decide +kernel
set_option maxRecDepth 20000 in
theorem dX6_run_2 : decode cX6_run 2 = .ok (.iconst 0, 1) := by decide +kernel
set_option maxRecDepth 20000 in
theorem dX6_run_3 : decode cX6_run 3 = .ok (.istore_n 3, 1) := by decide +kernel
set_option maxRecDepth 20000 in
theorem dX6_run_4 : decode cX6_run 4 = .ok (.iload_n 3, 1) := by decide +kernel
set_option maxRecDepth 20000 in
theorem dX6_run_5 : decode cX6_run 5 = .ok (.bipush 8, 2) := by decide +kernel
set_option maxRecDepth 20000 in
theorem dX6_run_7 : decode cX6_run 7 = .ok (.if_icmp .ge 51, 3) := by decide +kernel
set_option maxRecDepth 20000 in
theorem dX6_run_10 : decode cX6_run 10 = .ok (.aload_n 0, 1) := by decide +kernel
set_option maxRecDepth 20000 in
theorem dX6_run_11 : decode cX6_run 11 = .ok (.getfield 22, 3) := by decide +kernel
set_option maxRecDepth 20000 in
theorem dX6_run_14 : decode cX6_run 14 = .ok (.iload_n 3, 1) := by decide +kernel
set_option maxRecDepth 20000 in
theorem dX6_run_15 : decode cX6_run 15 = .ok (.aload_n 0, 1) := by decide +kernel
set_option maxRecDepth 20000 in
theorem dX6_run_16 : decode cX6_run 16 = .ok (.getfield 9, 3) := by decide +kernel
set_option maxRecDepth 20000 in
theorem dX6_run_19 : decode cX6_run 19 = .ok (.iload_n 1, 1) := by decide +kernel
set_option maxRecDepth 20000 in
theorem dX6_run_20 : decode cX6_run 20 = .ok (.iload_n 3, 1) := by decide +kernel
set_option maxRecDepth 20000 in
theorem dX6_run_21 : decode cX6_run 21 = .ok (.invokevirtual 31, 3) := by decide +kernel
set_option maxRecDepth 20000 in
theorem dX6_run_24 : decode cX6_run 24 = .ok (.iastore, 1) := by decide +kernel
set_option maxRecDepth 20000 in
theorem dX6_run_25 : decode cX6_run 25 = .ok (.aload_n 0, 1) := by decide +kernel
set_option maxRecDepth 20000 in
theorem dX6_run_26 : decode cX6_run 26 = .ok (.getfield 15, 3) := by decide +kernel
set_option maxRecDepth 20000 in
theorem dX6_run_29 : decode cX6_run 29 = .ok (.iload_n 3, 1) := by decide +kernel
set_option maxRecDepth 20000 in
theorem dX6_run_30 : decode cX6_run 30 = .ok (.iconst (-1), 1) := by decide +kernel
set_option maxRecDepth 20000 in
theorem dX6_run_31 : decode cX6_run 31 = .ok (.iastore, 1) := by decide +kernel
set_option maxRecDepth 20000 in
theorem dX6_run_32 : decode cX6_run 32 = .ok (.aload_n 0, 1) := by decide +kernel
set_option maxRecDepth 20000 in
theorem dX6_run_33 : decode cX6_run 33 = .ok (.getfield 19, 3) := by decide +kernel
set_option maxRecDepth 20000 in
theorem dX6_run_36 : decode cX6_run 36 = .ok (.iload_n 3, 1) := by decide +kernel
set_option maxRecDepth 20000 in
theorem dX6_run_37 : decode cX6_run 37 = .ok (.iconst 0, 1) := by decide +kernel
set_option maxRecDepth 20000 in
theorem dX6_run_38 : decode cX6_run 38 = .ok (.iastore, 1) := by decide +kernel
set_option maxRecDepth 20000 in
theorem dX6_run_39 : decode cX6_run 39 = .ok (.aload_n 0, 1) := by decide +kernel
set_option maxRecDepth 20000 in
theorem dX6_run_40 : decode cX6_run 40 = .ok (.getfield 22, 3) := by decide +kernel
set_option maxRecDepth 20000 in
theorem dX6_run_43 : decode cX6_run 43 = .ok (.iload_n 3, 1) := by decide +kernel
set_option maxRecDepth 20000 in
theorem dX6_run_44 : decode cX6_run 44 = .ok (.iaload, 1) := by decide +kernel
set_option maxRecDepth 20000 in
theorem dX6_run_45 : decode cX6_run 45 = .ok (.iconst (-1), 1) := by decide +kernel
set_option maxRecDepth 20000 in
theorem dX6_run_46 : decode cX6_run 46 = .ok (.if_icmp .eq 6, 3) := by decide +kernel
set_option maxRecDepth 20000 in
theorem dX6_run_49 : decode cX6_run 49 = .ok (.iinc 2 1, 3) := by decide +kernel
set_option maxRecDepth 20000 in
theorem dX6_run_52 : decode cX6_run 52 = .ok (.iinc 3 1, 3) := by decide +kernel
set_option maxRecDepth 20000 in
theorem dX6_run_55 : decode cX6_run 55 = .ok (.goto (-51), 3) := by decide +kernel
set_option maxRecDepth 20000 in
theorem dX6_run_58 : decode cX6_run 58 = .ok (.iconst 1, 1) := by decide +kernel
set_option maxRecDepth 20000 in
theorem dX6_run_59 : decode cX6_run 59 = .ok (.istore_n 3, 1) := by decide +kernel
set_option maxRecDepth 20000 in
theorem dX6_run_60 : decode cX6_run 60 = .ok (.iload_n 3, 1) := by decide +kernel
set_option maxRecDepth 20000 in
theorem dX6_run_61 : decode cX6_run 61 = .ok (.bipush 8, 2) := by decide +kernel
set_option maxRecDepth 20000 in
theorem dX6_run_63 : decode cX6_run 63 = .ok (.if_icmp .gt 29, 3) := by decide +kernel
set_option maxRecDepth 20000 in
theorem dX6_run_66 : decode cX6_run 66 = .ok (.iload_n 2, 1) := by decide +kernel
set_option maxRecDepth 20000 in
theorem dX6_run_67 : decode cX6_run 67 = .ok (.ifCond .le 25, 3) := by decide +kernel
set_option maxRecDepth 20000 in
theorem dX6_run_70 : decode cX6_run 70 = .ok (.aload_n 0, 1) := by decide +kernel
set_option maxRecDepth 20000 in
theorem dX6_run_71 : decode cX6_run 71 = .ok (.invokevirtual 37, 3) := by decide +kernel
set_option maxRecDepth 20000 in
theorem dX6_run_74 : decode cX6_run 74 = .ok (.aload_n 0, 1) := by decide +kernel
set_option maxRecDepth 20000 in
theorem dX6_run_75 : decode cX6_run 75 = .ok (.invokevirtual 40, 3) := by decide +kernel
set_option maxRecDepth 20000 in
theorem dX6_run_78 : decode cX6_run 78 = .ok (.iload_n 2, 1) := by decide +kernel
set_option maxRecDepth 20000 in
theorem dX6_run_79 : decode cX6_run 79 = .ok (.aload_n 0, 1) := by decide +kernel
set_option maxRecDepth 20000 in
theorem dX6_run_80 : decode cX6_run 80 = .ok (.iload_n 3, 1) := by decide +kernel
set_option maxRecDepth 20000 in
theorem dX6_run_81 : decode cX6_run 81 = .ok (.invokevirtual 43, 3) := by decide +kernel
set_option maxRecDepth 20000 in
theorem dX6_run_84 : decode cX6_run 84 = .ok (.isub, 1) := by decide +kernel
set_option maxRecDepth 20000 in
theorem dX6_run_85 : decode cX6_run 85 = .ok (.istore_n 2, 1) := by decide +kernel
set_option maxRecDepth 20000 in
theorem dX6_run_86 : decode cX6_run 86 = .ok (.iinc 3 1, 3) := by decide +kernel
set_option maxRecDepth 20000 in
theorem dX6_run_89 : decode cX6_run 89 = .ok (.goto (-29), 3) := by decide +kernel
set_option maxRecDepth 20000 in
theorem dX6_run_92 : decode cX6_run 92 = .ok (.return_, 1) := by decide +kernel
def f_X6_run_60 (N : Nat) (c_board_askers : Int32) (c_board_places : Int32) (c_board_told : Nat → Int32) (c_board_wishes : Nat → Int32) : Nat → (Nat → Int32) → (Nat → Int32) → (Nat → Int32) → (Nat → Int32) → (Nat → Int32) → Int32 → Int32 → Option ((Nat → Int32) × (Nat → Int32) × (Nat → Int32) × (Nat → Int32) × (Nat → Int32))
  | 0, _, _, _, _, _, _, _ => none
  | n + 1, c_gets, c_holderOf, c_holds, c_pointsAt, c_servedIn, v2, v3 =>
    (if 8 < v3 then
      some (c_gets, c_holderOf, c_holds, c_pointsAt, c_servedIn)
    else
      (if v2 ≤ 0 then
        some (c_gets, c_holderOf, c_holds, c_pointsAt, c_servedIn)
      else
        (f_X6_findHolders N c_board_askers c_holds c_servedIn c_holderOf).bind fun o3 =>
        (f_X6_pointAll N c_board_askers c_board_places o3 c_holds c_servedIn c_board_wishes c_pointsAt).bind fun o5 =>
        (f_X6_serve N c_board_askers c_holds o5 c_gets c_servedIn v3).bind fun (r7, o8, o9) =>
        f_X6_run_60 N c_board_askers c_board_places c_board_told c_board_wishes n o8 o3 c_holds o5 o9 (v2 - r7) (v3 + 1)))
set_option maxHeartbeats 4000000 in
set_option maxRecDepth 100000 in
theorem g_X6_run_60 {κ : KC} {ω : KW} {A : Nat → Prop} {ad : Nat → Nat} {u_board_age : Int32} {N : Nat} {c_board_askers : Int32} {c_board_places : Int32} {c_board_told : Nat → Int32} {c_board_wishes : Nat → Int32}  {res : (Nat → Int32) × (Nat → Int32) × (Nat → Int32) × (Nat → Int32) × (Nat → Int32)} : ∀ (n : Nat) {c_gets : Nat → Int32} {c_holderOf : Nat → Int32} {c_holds : Nat → Int32} {c_pointsAt : Nat → Int32} {c_servedIn : Nat → Int32} {v2 : Int32} {v3 : Int32}, f_X6_run_60 N c_board_askers c_board_places c_board_told c_board_wishes n c_gets c_holderOf c_holds c_pointsAt c_servedIn v2 v3 = some res → GG mu_X6_run κ ω A (QR κ ω A ad (none) (w_X6_run c_board_askers c_board_places res.1 res.2.1 res.2.2.1 res.2.2.2.1 res.2.2.2.2 c_board_told c_board_wishes u_board_age)) ad 0 0 60 (w_X6_run c_board_askers c_board_places c_gets c_holderOf c_holds c_pointsAt c_servedIn c_board_told c_board_wishes u_board_age) [some (.ref 0), none, some (.int v2), some (.int v3)] [] := by
  intro n
  induction n with
  | zero => intro c_gets c_holderOf c_holds c_pointsAt c_servedIn v2 v3 hf; exact ob_0 hf
  | succ n ih =>
    intro c_gets c_holderOf c_holds c_pointsAt c_servedIn v2 v3 hf
    refine G_iload_n dX6_run_60 rfl rfl ?_
    refine G_bipush 8 dX6_run_61 (by decide) ?_
    refine G_icmp_gt 92 dX6_run_63 (by decide) (fun h1 => ?_) (fun h1 => ?_)
    · replace hf := ob_t h1 hf
      obtain rfl := os hf
      exact G_return dX6_run_92 rfl
    · replace hf := ob_f h1 hf
      refine G_iload_n dX6_run_66 rfl rfl ?_
      refine G_if_le 92 dX6_run_67 (by decide) (fun h2 => ?_) (fun h2 => ?_)
      · replace hf := ob_t h2 hf
        obtain rfl := os hf
        exact G_return dX6_run_92 rfl
      · replace hf := ob_f h2 hf
        refine G_aload_n dX6_run_70 rfl rfl ?_
        obtain ⟨o3, hc4, hf⟩ := ob hf
        refine G_callV (μ2 := mu_X6_findHolders) (As := []) (w2 := (w_X6_run c_board_askers c_board_places c_gets o3 c_holds c_pointsAt c_servedIn c_board_told c_board_wishes u_board_age)) (wc := (w_X6_findHolders c_board_askers c_holderOf c_holds c_servedIn c_board_places u_board_age)) (wc2 := (w_X6_findHolders c_board_askers o3 c_holds c_servedIn c_board_places u_board_age)) (rest := []) (rv := []) [0, 1, 3, 4, 6] [2, 5, 1000, 8, 1001, 7] [2, 5, 7, 8] [4, 5, 0, 6, 7, 1, 8, 2, 3] (c_X6_findHolders hc4) cw_X6_findHolders m_X6_37 dX6_run_71 rfl ⟨leb rfl, leb rfl⟩ ⟨rfl, rfl⟩ rfl ⟨_, rfl, rfl⟩ (Fit.mk rfl rfl rfl) rfl (leb rfl) (ROsub.nil rfl rfl) rfl ?_
        change GG _ _ _ _ _ _ _ _ _ (w_X6_run c_board_askers c_board_places c_gets o3 c_holds c_pointsAt c_servedIn c_board_told c_board_wishes u_board_age) [some (.ref 0), none, some (.int v2), some (.int v3)] []
        refine G_aload_n dX6_run_74 rfl rfl ?_
        obtain ⟨o5, hc6, hf⟩ := ob hf
        refine G_callV (μ2 := mu_X6_pointAll) (As := []) (w2 := (w_X6_run c_board_askers c_board_places c_gets o3 c_holds o5 c_servedIn c_board_told c_board_wishes u_board_age)) (wc := (w_X6_pointAll c_board_askers c_board_places o3 c_holds c_pointsAt c_servedIn c_board_wishes u_board_age)) (wc2 := (w_X6_pointAll c_board_askers c_board_places o3 c_holds o5 c_servedIn c_board_wishes u_board_age)) (rest := []) (rv := []) [0, 1, 3, 4, 5, 6, 8] [2, 1000, 1001, 7] [2, 7] [2, 3, 0, 4, 5, 6, 7, 1, 8] (c_X6_pointAll hc6) cw_X6_pointAll m_X6_40 dX6_run_75 rfl ⟨leb rfl, leb rfl⟩ ⟨rfl, rfl⟩ rfl ⟨_, rfl, rfl⟩ (Fit.mk rfl rfl rfl) rfl (leb rfl) (ROsub.nil rfl rfl) rfl ?_
        change GG _ _ _ _ _ _ _ _ _ (w_X6_run c_board_askers c_board_places c_gets o3 c_holds o5 c_servedIn c_board_told c_board_wishes u_board_age) [some (.ref 0), none, some (.int v2), some (.int v3)] []
        refine G_iload_n dX6_run_78 rfl rfl ?_
        refine G_aload_n dX6_run_79 rfl rfl ?_
        refine G_iload_n dX6_run_80 rfl rfl ?_
        obtain ⟨⟨r7, o8, o9⟩, hc10, hf⟩ := ob hf
        refine G_callV (μ2 := mu_X6_serve) (As := [.int v3]) (w2 := (w_X6_run c_board_askers c_board_places o8 o3 c_holds o5 o9 c_board_told c_board_wishes u_board_age)) (wc := (w_X6_serve c_board_askers c_gets c_holds o5 c_servedIn c_board_places u_board_age)) (wc2 := (w_X6_serve c_board_askers o8 c_holds o5 o9 c_board_places u_board_age)) (rest := [.int v2]) (rv := [.int r7]) [0, 1, 2, 4, 5, 6] [3, 1000, 8, 1001, 7] [3, 7, 8] [3, 4, 5, 0, 6, 7, 8, 1, 2] (c_X6_serve hc10) cw_X6_serve m_X6_43 dX6_run_81 rfl ⟨leb rfl, leb rfl⟩ ⟨rfl, rfl⟩ rfl ⟨_, rfl, rfl⟩ (Fit.mk rfl rfl rfl) rfl (leb rfl) (ROsub.nil rfl rfl) rfl ?_
        change GG _ _ _ _ _ _ _ _ _ (w_X6_run c_board_askers c_board_places o8 o3 c_holds o5 o9 c_board_told c_board_wishes u_board_age) [some (.ref 0), none, some (.int v2), some (.int v3)] [.int r7, .int v2]
        refine G_isub dX6_run_84 ?_
        refine G_istore_n dX6_run_85 rfl (ltb rfl) ?_
        change GG _ _ _ _ _ _ _ _ _ _ [some (.ref 0), none, some (.int (v2 - r7)), some (.int v3)] _
        refine G_iinc 1 dX6_run_86 (by decide) rfl (ltb rfl) ?_
        change GG _ _ _ _ _ _ _ _ _ _ [some (.ref 0), none, some (.int (v2 - r7)), some (.int (v3 + 1))] _
        refine G_goto 60 dX6_run_89 (by decide) ?_
        exact ih hf
def f_X6_run_4 (N : Nat) (c_board_askers : Int32) (c_board_places : Int32) (c_board_told : Nat → Int32) (c_board_wishes : Nat → Int32) : Nat → (Nat → Int32) → (Nat → Int32) → (Nat → Int32) → (Nat → Int32) → (Nat → Int32) → Int32 → Int32 → Int32 → Option ((Nat → Int32) × (Nat → Int32) × (Nat → Int32) × (Nat → Int32) × (Nat → Int32))
  | 0, _, _, _, _, _, _, _, _ => none
  | n + 1, c_gets, c_holderOf, c_holds, c_pointsAt, c_servedIn, v1, v2, v3 =>
    (if 8 ≤ v3 then
      f_X6_run_60 N c_board_askers c_board_places c_board_told c_board_wishes N c_gets c_holderOf c_holds c_pointsAt c_servedIn v2 1
    else
      (f_X0_toldOf N c_board_told v1 v3).bind fun r2 =>
      (wrI 8 c_holds v3 r2).bind fun t4 =>
      (wrI 8 c_gets v3 (-1 : Int32)).bind fun t5 =>
      (wrI 8 c_servedIn v3 0).bind fun t6 =>
      (rdI 8 t4 v3).bind fun t7 =>
      (if t7 = (-1 : Int32) then
        f_X6_run_4 N c_board_askers c_board_places c_board_told c_board_wishes n t5 c_holderOf t4 c_pointsAt t6 v1 v2 (v3 + 1)
      else
        f_X6_run_4 N c_board_askers c_board_places c_board_told c_board_wishes n t5 c_holderOf t4 c_pointsAt t6 v1 (v2 + 1) (v3 + 1)))
set_option maxHeartbeats 4000000 in
set_option maxRecDepth 100000 in
theorem g_X6_run_4 {κ : KC} {ω : KW} {A : Nat → Prop} {ad : Nat → Nat} {u_board_age : Int32} {N : Nat} {c_board_askers : Int32} {c_board_places : Int32} {c_board_told : Nat → Int32} {c_board_wishes : Nat → Int32}  {res : (Nat → Int32) × (Nat → Int32) × (Nat → Int32) × (Nat → Int32) × (Nat → Int32)} : ∀ (n : Nat) {c_gets : Nat → Int32} {c_holderOf : Nat → Int32} {c_holds : Nat → Int32} {c_pointsAt : Nat → Int32} {c_servedIn : Nat → Int32} {v1 : Int32} {v2 : Int32} {v3 : Int32}, f_X6_run_4 N c_board_askers c_board_places c_board_told c_board_wishes n c_gets c_holderOf c_holds c_pointsAt c_servedIn v1 v2 v3 = some res → GG mu_X6_run κ ω A (QR κ ω A ad (none) (w_X6_run c_board_askers c_board_places res.1 res.2.1 res.2.2.1 res.2.2.2.1 res.2.2.2.2 c_board_told c_board_wishes u_board_age)) ad 0 0 4 (w_X6_run c_board_askers c_board_places c_gets c_holderOf c_holds c_pointsAt c_servedIn c_board_told c_board_wishes u_board_age) [some (.ref 0), some (.int v1), some (.int v2), some (.int v3)] [] := by
  intro n
  induction n with
  | zero => intro c_gets c_holderOf c_holds c_pointsAt c_servedIn v1 v2 v3 hf; exact ob_0 hf
  | succ n ih =>
    intro c_gets c_holderOf c_holds c_pointsAt c_servedIn v1 v2 v3 hf
    refine G_iload_n dX6_run_4 rfl rfl ?_
    refine G_bipush 8 dX6_run_5 (by decide) ?_
    refine G_icmp_ge 58 dX6_run_7 (by decide) (fun h1 => ?_) (fun h1 => ?_)
    · replace hf := ob_t h1 hf
      refine G_iconst 1 dX6_run_58 (by decide) ?_
      refine G_istore_n dX6_run_59 rfl (ltb rfl) ?_
      change GG _ _ _ _ _ _ _ _ _ _ [some (.ref 0), some (.int v1), some (.int v2), some (.int 1)] _
      refine GG.sb (lv2 := [some (.ref 0), none, some (.int v2), some (.int 1)]) ?_ (lvS_v rfl (lvS_n (lvS_v rfl (lvS_v rfl (lvS_e)))))
      exact g_X6_run_60 N hf
    · replace hf := ob_f h1 hf
      refine G_aload_n dX6_run_10 rfl rfl ?_
      refine G_get (v := .ref 4) F_X6_22 dX6_run_11 rfl rfl ?_
      refine G_iload_n dX6_run_14 rfl rfl ?_
      refine G_aload_n dX6_run_15 rfl rfl ?_
      refine G_get (v := .ref 1) F_X6_9 dX6_run_16 rfl rfl ?_
      refine G_iload_n dX6_run_19 rfl rfl ?_
      refine G_iload_n dX6_run_20 rfl rfl ?_
      obtain ⟨r2, hc3, hf⟩ := ob hf
      refine G_callV (μ2 := mu_X0_toldOf) (As := [.int v1, .int v3]) (w2 := (w_X6_run c_board_askers c_board_places c_gets c_holderOf c_holds c_pointsAt c_servedIn c_board_told c_board_wishes u_board_age)) (wc := (w_X0_toldOf c_board_told c_board_askers c_board_places u_board_age)) (wc2 := (w_X0_toldOf c_board_told c_board_askers c_board_places u_board_age)) (rest := [.int v3, .ref 4]) (rv := [.int r2]) [1, 7] [1000, 8, 1001] [0, 2, 3, 4, 5, 6, 8] [0, 7, 1, 2, 3, 4, 5, 8, 6] (c_X0_toldOf hc3) cw_X0_toldOf m_X6_31 dX6_run_21 rfl ⟨leb rfl, leb rfl⟩ ⟨rfl, rfl⟩ rfl ⟨_, rfl, rfl⟩ (Fit.mk rfl rfl rfl) rfl (leb rfl) (ROsub.nil rfl rfl) rfl ?_
      change GG _ _ _ _ _ _ _ _ _ (w_X6_run c_board_askers c_board_places c_gets c_holderOf c_holds c_pointsAt c_servedIn c_board_told c_board_wishes u_board_age) [some (.ref 0), some (.int v1), some (.int v2), some (.int v3)] [.int r2, .int v3, .ref 4]
      obtain ⟨t4, ht4, hf⟩ := ob hf
      refine G_iast (w2 := (w_X6_run c_board_askers c_board_places c_gets c_holderOf t4 c_pointsAt c_servedIn c_board_told c_board_wishes u_board_age)) dX6_run_24 rfl ht4 rfl ?_
      refine G_aload_n dX6_run_25 rfl rfl ?_
      refine G_get (v := .ref 2) F_X6_15 dX6_run_26 rfl rfl ?_
      refine G_iload_n dX6_run_29 rfl rfl ?_
      refine G_iconst (-1 : Int32) dX6_run_30 (by decide) ?_
      obtain ⟨t5, ht5, hf⟩ := ob hf
      refine G_iast (w2 := (w_X6_run c_board_askers c_board_places t5 c_holderOf t4 c_pointsAt c_servedIn c_board_told c_board_wishes u_board_age)) dX6_run_31 rfl ht5 rfl ?_
      refine G_aload_n dX6_run_32 rfl rfl ?_
      refine G_get (v := .ref 6) F_X6_19 dX6_run_33 rfl rfl ?_
      refine G_iload_n dX6_run_36 rfl rfl ?_
      refine G_iconst 0 dX6_run_37 (by decide) ?_
      obtain ⟨t6, ht6, hf⟩ := ob hf
      refine G_iast (w2 := (w_X6_run c_board_askers c_board_places t5 c_holderOf t4 c_pointsAt t6 c_board_told c_board_wishes u_board_age)) dX6_run_38 rfl ht6 rfl ?_
      refine G_aload_n dX6_run_39 rfl rfl ?_
      refine G_get (v := .ref 4) F_X6_22 dX6_run_40 rfl rfl ?_
      refine G_iload_n dX6_run_43 rfl rfl ?_
      obtain ⟨t7, ht7, hf⟩ := ob hf
      refine G_iald dX6_run_44 rfl ht7 ?_
      refine G_iconst (-1 : Int32) dX6_run_45 (by decide) ?_
      refine G_icmp_eq 52 dX6_run_46 (by decide) (fun h8 => ?_) (fun h8 => ?_)
      · replace hf := ob_t h8 hf
        refine G_iinc 1 dX6_run_52 (by decide) rfl (ltb rfl) ?_
        change GG _ _ _ _ _ _ _ _ _ _ [some (.ref 0), some (.int v1), some (.int v2), some (.int (v3 + 1))] _
        refine G_goto 4 dX6_run_55 (by decide) ?_
        exact ih hf
      · replace hf := ob_f h8 hf
        refine G_iinc 1 dX6_run_49 (by decide) rfl (ltb rfl) ?_
        change GG _ _ _ _ _ _ _ _ _ _ [some (.ref 0), some (.int v1), some (.int (v2 + 1)), some (.int v3)] _
        refine G_iinc 1 dX6_run_52 (by decide) rfl (ltb rfl) ?_
        change GG _ _ _ _ _ _ _ _ _ _ [some (.ref 0), some (.int v1), some (.int (v2 + 1)), some (.int (v3 + 1))] _
        refine G_goto 4 dX6_run_55 (by decide) ?_
        exact ih hf
def f_X6_run (N : Nat) (c_board_askers : Int32) (c_board_places : Int32) (c_board_told : Nat → Int32) (c_board_wishes : Nat → Int32) (c_gets : Nat → Int32) (c_holderOf : Nat → Int32) (c_holds : Nat → Int32) (c_pointsAt : Nat → Int32) (c_servedIn : Nat → Int32) (a1 : Int32) : Option ((Nat → Int32) × (Nat → Int32) × (Nat → Int32) × (Nat → Int32) × (Nat → Int32)) :=
  f_X6_run_4 N c_board_askers c_board_places c_board_told c_board_wishes N c_gets c_holderOf c_holds c_pointsAt c_servedIn a1 0 0
set_option maxHeartbeats 4000000 in
set_option maxRecDepth 100000 in
theorem c_X6_run {N : Nat} {c_board_askers : Int32} {c_board_places : Int32} {c_board_told : Nat → Int32} {c_board_wishes : Nat → Int32} {c_gets : Nat → Int32} {c_holderOf : Nat → Int32} {c_holds : Nat → Int32} {c_pointsAt : Nat → Int32} {c_servedIn : Nat → Int32} {u_board_age : Int32} {a1 : Int32} {res : (Nat → Int32) × (Nat → Int32) × (Nat → Int32) × (Nat → Int32) × (Nat → Int32)} (hf : f_X6_run N c_board_askers c_board_places c_board_told c_board_wishes c_gets c_holderOf c_holds c_pointsAt c_servedIn a1 = some res) : Con mu_X6_run [.ref 0, .int a1] (w_X6_run c_board_askers c_board_places c_gets c_holderOf c_holds c_pointsAt c_servedIn c_board_told c_board_wishes u_board_age) (none) (w_X6_run c_board_askers c_board_places res.1 res.2.1 res.2.2.1 res.2.2.2.1 res.2.2.2.2 c_board_told c_board_wishes u_board_age) := by
  refine Con.mk (show plainName RX6 = true by decide +kernel) (leb rfl) (fun κ ω A ad => ?_)
  change GG mu_X6_run κ ω A (QR κ ω A ad (none) (w_X6_run c_board_askers c_board_places res.1 res.2.1 res.2.2.1 res.2.2.2.1 res.2.2.2.2 c_board_told c_board_wishes u_board_age)) ad 0 0 0 (w_X6_run c_board_askers c_board_places c_gets c_holderOf c_holds c_pointsAt c_servedIn c_board_told c_board_wishes u_board_age) [some (.ref 0), some (.int a1), none, none] []
  refine G_iconst 0 dX6_run_0 (by decide) ?_
  refine G_istore_n dX6_run_1 rfl (ltb rfl) ?_
  change GG _ _ _ _ _ _ _ _ _ _ [some (.ref 0), some (.int a1), some (.int 0), none] _
  refine G_iconst 0 dX6_run_2 (by decide) ?_
  refine G_istore_n dX6_run_3 rfl (ltb rfl) ?_
  change GG _ _ _ _ _ _ _ _ _ _ [some (.ref 0), some (.int a1), some (.int 0), some (.int 0)] _
  exact g_X6_run_4 N hf
