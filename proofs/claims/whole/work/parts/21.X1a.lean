/-! printed by wip/gen: WishPlaces$Eating, part 0 -/
set_option maxRecDepth 100000 in
theorem uX1 : ∀ w ∈ u_ws RX1 TX1 7, w ∈ ALLW := by decide +kernel
theorem F_X1_9 : FLD RX1 9 1 1 (.object "WishPlaces$Board") true := ⟨RX1, TX1, 7, tyX1, rfl, by decide, uX1, all_of 227 (by decide +kernel) (by decide +kernel), tyX1_ok, rfl, nmX1, rfl⟩
theorem F_X1_15 : FLD RX1 15 1 3 (.array .long) true := ⟨RX1, TX1, 7, tyX1, rfl, by decide, uX1, all_of 229 (by decide +kernel) (by decide +kernel), tyX1_ok, rfl, nmX1, rfl⟩
theorem F_X1_19 : FLD RX1 19 1 4 (.array .long) true := ⟨RX1, TX1, 7, tyX1, rfl, by decide, uX1, all_of 230 (by decide +kernel) (by decide +kernel), tyX1_ok, rfl, nmX1, rfl⟩
theorem F_X1_22 : FLD RX1 22 1 5 (.array .int) true := ⟨RX1, TX1, 7, tyX1, rfl, by decide, uX1, all_of 231 (by decide +kernel) (by decide +kernel), tyX1_ok, rfl, nmX1, rfl⟩
theorem F_X1_26 : FLD RX1 26 1 6 (.array .int) true := ⟨RX1, TX1, 7, tyX1, rfl, by decide, uX1, all_of 232 (by decide +kernel) (by decide +kernel), tyX1_ok, rfl, nmX1, rfl⟩
theorem F_X1_29 : FLD RX1 29 1 0 .long false := ⟨RX1, TX1, 7, tyX1, rfl, by decide, uX1, all_of 225 (by decide +kernel) (by decide +kernel), tyX1_ok, rfl, nmX1, rfl⟩
theorem F_X1_33 : FLD RX1 33 1 2 .long false := ⟨RX1, TX1, 7, tyX1, rfl, by decide, uX1, all_of 228 (by decide +kernel) (by decide +kernel), tyX1_ok, rfl, nmX1, rfl⟩
theorem F_X1_36 : FLD RX1 36 0 1 .int false := ⟨RX0, TX0, 7, tyX0, rfl, by decide, uX0, all_of 33 (by decide +kernel) (by decide +kernel), tyX0_ok, rfl, nmX0, rfl⟩
theorem F_X1_42 : FLD RX1 42 0 3 (.array .int) true := ⟨RX0, TX0, 7, tyX0, rfl, by decide, uX0, all_of 42 (by decide +kernel) (by decide +kernel), tyX0_ok, rfl, nmX0, rfl⟩
theorem F_X1_60 : FLD RX1 60 0 0 .int false := ⟨RX0, TX0, 7, tyX0, rfl, by decide, uX0, all_of 29 (by decide +kernel) (by decide +kernel), tyX0_ok, rfl, nmX0, rfl⟩
theorem m_X1_45 : Cond.methodLink RX1 45 yX1_seatAll ∈ ALLW := all_of 705 (by decide +kernel) (by decide +kernel)
theorem m_X1_48 : Cond.methodLink RX1 48 yX1_soonestUp ∈ ALLW := all_of 714 (by decide +kernel) (by decide +kernel)
theorem m_X1_52 : Cond.methodLink RX1 52 yX1_eatFor ∈ ALLW := all_of 718 (by decide +kernel) (by decide +kernel)
theorem m_X1_56 : Cond.methodLink RX1 56 yX1_refine ∈ ALLW := all_of 722 (by decide +kernel) (by decide +kernel)
theorem m_X1_63 : Cond.methodLink RX1 63 yX1_bestLeft ∈ ALLW := all_of 709 (by decide +kernel) (by decide +kernel)
theorem m_X1_67 : Cond.methodLink RX1 67 yX0_likeAt ∈ ALLW := all_of 713 (by decide +kernel) (by decide +kernel)
theorem m_X1_71 : Cond.methodLink RX1 71 yX0_worthOf ∈ ALLW := all_of 738 (by decide +kernel) (by decide +kernel)
abbrev mu_X1_bestLeft : KM := (yX1_bestLeft, cX1_bestLeft, 4, (some .int), { frames := 1, cells := 0, slots := 0, locals := 22 }, [], [])
def w_X1_bestLeft (c_rest : Nat → Int64) (c_board_likes : Nat → Int32) (u_whole : Int64) (u_time : Int64) (u_board_askers : Int32) (u_board_places : Int32) (u_board_age : Int32) : List mE := [.inr (1, [.long u_whole, .ref 1, .long u_time, .ref 1000, .ref 2, .ref 1001, .ref 1002]), .inr (0, [.int u_board_askers, .int u_board_places, .int u_board_age, .ref 1003, .ref 1004, .ref 3, .ref 1005]), .inl (1, 6, .inr (.inl c_rest)), .inl (0, 48, .inl c_board_likes)]
theorem cw_X1_bestLeft : CWv mu_X1_bestLeft 1 := ⟨⟨all_of 712 (by decide +kernel) (by decide +kernel), all_of 8 (by decide +kernel) (by decide +kernel), by decide +kernel, by decide +kernel, by decide +kernel⟩, all_of 711 (by decide +kernel) (by decide +kernel), all_pr 40 (by decide +kernel) (by decide +kernel)⟩
abbrev mu_X1_seatAll : KM := (yX1_seatAll, cX1_seatAll, 3, none, { frames := 2, cells := 0, slots := 0, locals := 45 }, [], [])
def w_X1_seatAll (c_board_askers : Int32) (c_eaters : Nat → Int32) (c_eatsAt : Nat → Int32) (c_rest : Nat → Int64) (c_board_likes : Nat → Int32) (u_whole : Int64) (u_time : Int64) (u_board_places : Int32) (u_board_age : Int32) : List mE := [.inr (1, [.long u_whole, .ref 1, .long u_time, .ref 1000, .ref 4, .ref 3, .ref 2]), .inr (0, [.int c_board_askers, .int u_board_places, .int u_board_age, .ref 1001, .ref 1002, .ref 5, .ref 1003]), .inl (0, 6, .inl c_eaters), .inl (0, 8, .inl c_eatsAt), .inl (1, 6, .inr (.inl c_rest)), .inl (0, 48, .inl c_board_likes)]
theorem cw_X1_seatAll : CWv mu_X1_seatAll 0 := ⟨⟨all_of 708 (by decide +kernel) (by decide +kernel), all_of 8 (by decide +kernel) (by decide +kernel), by decide +kernel, by decide +kernel, by decide +kernel⟩, all_of 707 (by decide +kernel) (by decide +kernel), all_pr 39 (by decide +kernel) (by decide +kernel)⟩
abbrev mu_X1_soonestUp : KM := (yX1_soonestUp, cX1_soonestUp, 7, (some .int), { frames := 0, cells := 0, slots := 0, locals := 0 }, [], [])
def w_X1_soonestUp (c_time : Int64) (c_board_places : Int32) (c_eaters : Nat → Int32) (c_rest : Nat → Int64) (u_whole : Int64) (u_board_askers : Int32) (u_board_age : Int32) : List mE := [.inr (1, [.long u_whole, .ref 1, .long c_time, .ref 1000, .ref 3, .ref 1001, .ref 2]), .inr (0, [.int u_board_askers, .int c_board_places, .int u_board_age, .ref 1002, .ref 1003, .ref 1004, .ref 1005]), .inl (0, 6, .inl c_eaters), .inl (1, 6, .inr (.inl c_rest))]
theorem cw_X1_soonestUp : CWv mu_X1_soonestUp 0 := ⟨⟨all_of 717 (by decide +kernel) (by decide +kernel), all_of 8 (by decide +kernel) (by decide +kernel), by decide +kernel, by decide +kernel, by decide +kernel⟩, all_of 716 (by decide +kernel) (by decide +kernel), all_pr 41 (by decide +kernel) (by decide +kernel)⟩
abbrev mu_X1_eatFor : KM := (yX1_eatFor, cX1_eatFor, 5, none, { frames := 0, cells := 0, slots := 0, locals := 0 }, [], [])
def w_X1_eatFor (c_time : Int64) (c_board_askers : Int32) (c_eaten : Nat → Int64) (c_eatsAt : Nat → Int32) (c_rest : Nat → Int64) (u_whole : Int64) (u_board_places : Int32) (u_board_age : Int32) : List mE := [.inr (1, [.long u_whole, .ref 1, .long c_time, .ref 2, .ref 4, .ref 3, .ref 1000]), .inr (0, [.int c_board_askers, .int u_board_places, .int u_board_age, .ref 1001, .ref 1002, .ref 1003, .ref 1004]), .inl (1, 48, .inr (.inl c_eaten)), .inl (0, 8, .inl c_eatsAt), .inl (1, 6, .inr (.inl c_rest))]
theorem cw_X1_eatFor : CWv mu_X1_eatFor 1 := ⟨⟨all_of 721 (by decide +kernel) (by decide +kernel), all_of 8 (by decide +kernel) (by decide +kernel), by decide +kernel, by decide +kernel, by decide +kernel⟩, all_of 720 (by decide +kernel) (by decide +kernel), all_pr 42 (by decide +kernel) (by decide +kernel)⟩
abbrev mu_X1_refine : KM := (yX1_refine, cX1_refine, 3, none, { frames := 0, cells := 0, slots := 0, locals := 0 }, [], [])
def w_X1_refine (c_whole : Int64) (c_time : Int64) (c_eaten : Nat → Int64) (c_rest : Nat → Int64) : List mE := [.inr (1, [.long c_whole, .ref 1000, .long c_time, .ref 1, .ref 2, .ref 1001, .ref 1002]), .inl (1, 48, .inr (.inl c_eaten)), .inl (1, 6, .inr (.inl c_rest))]
theorem cw_X1_refine : CWv mu_X1_refine 1 := ⟨⟨all_of 725 (by decide +kernel) (by decide +kernel), all_of 8 (by decide +kernel) (by decide +kernel), by decide +kernel, by decide +kernel, by decide +kernel⟩, all_of 724 (by decide +kernel) (by decide +kernel), all_pr 43 (by decide +kernel) (by decide +kernel)⟩
abbrev mu_X1_run : KM := (yX1_run, cX1_run, 5, none, { frames := 3, cells := 0, slots := 0, locals := 67 }, [], [])
def w_X1_run (c_whole : Int64) (c_time : Int64) (c_board_askers : Int32) (c_board_places : Int32) (c_eaten : Nat → Int64) (c_eaters : Nat → Int32) (c_eatsAt : Nat → Int32) (c_rest : Nat → Int64) (c_board_likes : Nat → Int32) (c_board_seats : Nat → Int32) (u_board_age : Int32) : List mE := [.inr (1, [.long c_whole, .ref 1, .long c_time, .ref 2, .ref 5, .ref 4, .ref 3]), .inr (0, [.int c_board_askers, .int c_board_places, .int u_board_age, .ref 7, .ref 1000, .ref 6, .ref 1001]), .inl (1, 48, .inr (.inl c_eaten)), .inl (0, 6, .inl c_eaters), .inl (0, 8, .inl c_eatsAt), .inl (1, 6, .inr (.inl c_rest)), .inl (0, 48, .inl c_board_likes), .inl (0, 6, .inl c_board_seats)]
theorem cw_X1_run : CWv mu_X1_run 0 := ⟨⟨all_of 704 (by decide +kernel) (by decide +kernel), all_of 8 (by decide +kernel) (by decide +kernel), by decide +kernel, by decide +kernel, by decide +kernel⟩, all_of 702 (by decide +kernel) (by decide +kernel), all_of 703 (by decide +kernel) (by decide +kernel)⟩
abbrev mu_X1_eatenBy : KM := (yX1_eatenBy, cX1_eatenBy, 3, (some .long), { frames := 0, cells := 0, slots := 0, locals := 0 }, [], [])
def w_X1_eatenBy (c_eaten : Nat → Int64) (u_whole : Int64) (u_time : Int64) : List mE := [.inr (1, [.long u_whole, .ref 1000, .long u_time, .ref 1, .ref 1001, .ref 1002, .ref 1003]), .inl (1, 48, .inr (.inl c_eaten))]
theorem cw_X1_eatenBy : CWv mu_X1_eatenBy 2 := ⟨⟨all_of 729 (by decide +kernel) (by decide +kernel), all_of 8 (by decide +kernel) (by decide +kernel), by decide +kernel, by decide +kernel, by decide +kernel⟩, all_of 727 (by decide +kernel) (by decide +kernel), all_of 728 (by decide +kernel) (by decide +kernel)⟩
abbrev mu_X1_eatenUpTo : KM := (yX1_eatenUpTo, cX1_eatenUpTo, 7, (some .long), { frames := 1, cells := 0, slots := 0, locals := 23 }, [], [])
def w_X1_eatenUpTo (c_board_places : Int32) (c_eaten : Nat → Int64) (c_board_wishes : Nat → Int32) (u_whole : Int64) (u_time : Int64) (u_board_askers : Int32) (u_board_age : Int32) : List mE := [.inr (1, [.long u_whole, .ref 1, .long u_time, .ref 2, .ref 1000, .ref 1001, .ref 1002]), .inr (0, [.int u_board_askers, .int c_board_places, .int u_board_age, .ref 1003, .ref 3, .ref 1004, .ref 1005]), .inl (1, 48, .inr (.inl c_eaten)), .inl (0, 48, .inl c_board_wishes)]
theorem cw_X1_eatenUpTo : CWv mu_X1_eatenUpTo 3 := ⟨⟨all_of 737 (by decide +kernel) (by decide +kernel), all_of 8 (by decide +kernel) (by decide +kernel), by decide +kernel, by decide +kernel, by decide +kernel⟩, all_of 735 (by decide +kernel) (by decide +kernel), all_of 736 (by decide +kernel) (by decide +kernel)⟩
set_option maxRecDepth 20000 in
theorem dX1_bestLeft_0 : decode cX1_bestLeft 0 = .ok (.iconst 0, 1) := by decide +kernel
set_option maxRecDepth 20000 in
theorem dX1_bestLeft_1 : decode cX1_bestLeft 1 = .ok (.istore_n 2, 1) := by decide +kernel
set_option maxRecDepth 20000 in
theorem dX1_bestLeft_2 : decode cX1_bestLeft 2 = .ok (.iload_n 2, 1) := by decide +kernel
set_option maxRecDepth 20000 in
theorem dX1_bestLeft_3 : decode cX1_bestLeft 3 = .ok (.bipush 6, 2) := by decide +kernel
set_option maxRecDepth 20000 in
theorem dX1_bestLeft_5 : decode cX1_bestLeft 5 = .ok (.if_icmp .ge 37, 3) := by decide +kernel
set_option maxRecDepth 20000 in
theorem dX1_bestLeft_8 : decode cX1_bestLeft 8 = .ok (.aload_n 0, 1) := by decide +kernel
set_option maxRecDepth 20000 in
theorem dX1_bestLeft_9 : decode cX1_bestLeft 9 = .ok (.getfield 9, 3) := by decide +kernel
set_option maxRecDepth 20000 in
theorem dX1_bestLeft_12 : decode cX1_bestLeft 12 = .ok (.iload_n 1, 1) := by decide +kernel
set_option maxRecDepth 20000 in
theorem dX1_bestLeft_13 : decode cX1_bestLeft 13 = .ok (.iload_n 2, 1) := by decide +kernel
set_option maxRecDepth 20000 in
theorem dX1_bestLeft_14 : decode cX1_bestLeft 14 = .ok (.invokevirtual 67, 3) := by decide +kernel
set_option maxRecDepth 20000 in
theorem dX1_bestLeft_17 : decode cX1_bestLeft 17 = .ok (.istore_n 3, 1) := by decide +kernel
set_option maxRecDepth 20000 in
theorem dX1_bestLeft_18 : decode cX1_bestLeft 18 = .ok (.iload_n 3, 1) := by decide +kernel
set_option maxRecDepth 20000 in
theorem dX1_bestLeft_19 : decode cX1_bestLeft 19 = .ok (.iconst (-1), 1) := by decide +kernel
set_option maxRecDepth 20000 in
theorem dX1_bestLeft_20 : decode cX1_bestLeft 20 = .ok (.if_icmp .eq 14, 3) := by decide +kernel
set_option maxRecDepth 20000 in
theorem dX1_bestLeft_23 : decode cX1_bestLeft 23 = .ok (.aload_n 0, 1) := by decide +kernel
set_option maxRecDepth 20000 in
theorem dX1_bestLeft_24 : decode cX1_bestLeft 24 = .ok (.getfield 19, 3) := by decide +kernel
set_option maxRecDepth 20000 in
theorem dX1_bestLeft_27 : decode cX1_bestLeft 27 = .ok (.iload_n 3, 1) := by decide +kernel
set_option maxRecDepth 20000 in
theorem dX1_bestLeft_28 : decode cX1_bestLeft 28 = .ok (.laload, 1) := by decide +kernel
set_option maxRecDepth 20000 in
theorem dX1_bestLeft_29 : decode cX1_bestLeft 29 = .ok (.lconst 0, 1) := by decide +kernel
set_option maxRecDepth 20000 in
theorem dX1_bestLeft_30 : decode cX1_bestLeft 30 = .ok (.lcmp, 1) := by decide +kernel
set_option maxRecDepth 20000 in
theorem dX1_bestLeft_31 : decode cX1_bestLeft 31 = .ok (.ifCond .le 5, 3) := by decide +kernel
set_option maxRecDepth 20000 in
theorem dX1_bestLeft_34 : decode cX1_bestLeft 34 = .ok (.iload_n 3, 1) := by decide +kernel
set_option maxRecDepth 20000 in
theorem dX1_bestLeft_35 : decode cX1_bestLeft 35 = .ok (.ireturn, 1) := by decide +kernel
set_option maxRecDepth 20000 in
theorem dX1_bestLeft_36 : decode cX1_bestLeft 36 = .ok (.iinc 2 1, 3) := by decide +kernel
set_option maxRecDepth 20000 in
theorem dX1_bestLeft_39 : decode cX1_bestLeft 39 = .ok (.goto (-37), 3) := by decide +kernel
set_option maxRecDepth 20000 in
theorem dX1_bestLeft_42 : decode cX1_bestLeft 42 = .ok (.iconst (-1), 1) := by decide +kernel
set_option maxRecDepth 20000 in
theorem dX1_bestLeft_43 : decode cX1_bestLeft 43 = .ok (.ireturn, 1) := by decide +kernel
def f_X1_bestLeft_2 (N : Nat) (c_rest : Nat → Int64) (c_board_likes : Nat → Int32) : Nat → Int32 → Int32 → Option (Int32)
  | 0, _, _ => none
  | n + 1, v1, v2 =>
    (if 6 ≤ v2 then
      some (-1 : Int32)
    else
      (f_X0_likeAt N c_board_likes v1 v2).bind fun r2 =>
      (if r2 = (-1 : Int32) then
        some r2
      else
        (rdL 6 c_rest r2).bind fun t5 =>
        (if t5 ≤ 0 then
          f_X1_bestLeft_2 N c_rest c_board_likes n v1 (v2 + 1)
        else
          some r2)))
set_option maxHeartbeats 4000000 in
set_option maxRecDepth 100000 in
theorem g_X1_bestLeft_2 {κ : KC} {ω : KW} {A : Nat → Prop} {ad : Nat → Nat} {u_whole : Int64} {u_time : Int64} {u_board_askers : Int32} {u_board_places : Int32} {u_board_age : Int32} {N : Nat} {c_rest : Nat → Int64} {c_board_likes : Nat → Int32}  {res : Int32} : ∀ (n : Nat) {v1 : Int32} {v2 : Int32}, f_X1_bestLeft_2 N c_rest c_board_likes n v1 v2 = some res → GG mu_X1_bestLeft κ ω A (QR κ ω A ad (some (.int res)) (w_X1_bestLeft c_rest c_board_likes u_whole u_time u_board_askers u_board_places u_board_age)) ad 0 0 2 (w_X1_bestLeft c_rest c_board_likes u_whole u_time u_board_askers u_board_places u_board_age) [some (.ref 0), some (.int v1), some (.int v2), none] [] := by
  intro n
  induction n with
  | zero => intro v1 v2 hf; exact ob_0 hf
  | succ n ih =>
    intro v1 v2 hf
    refine G_iload_n dX1_bestLeft_2 rfl rfl ?_
    refine G_bipush 6 dX1_bestLeft_3 (by decide) ?_
    refine G_icmp_ge 42 dX1_bestLeft_5 (by decide) (fun h1 => ?_) (fun h1 => ?_)
    · replace hf := ob_t h1 hf
      refine G_iconst (-1 : Int32) dX1_bestLeft_42 (by decide) ?_
      obtain rfl := os hf
      exact G_ireturn dX1_bestLeft_43 rfl
    · replace hf := ob_f h1 hf
      refine G_aload_n dX1_bestLeft_8 rfl rfl ?_
      refine G_get (v := .ref 1) F_X1_9 dX1_bestLeft_9 rfl rfl ?_
      refine G_iload_n dX1_bestLeft_12 rfl rfl ?_
      refine G_iload_n dX1_bestLeft_13 rfl rfl ?_
      obtain ⟨r2, hc3, hf⟩ := ob hf
      refine G_callV (μ2 := mu_X0_likeAt) (As := [.int v1, .int v2]) (w2 := (w_X1_bestLeft c_rest c_board_likes u_whole u_time u_board_askers u_board_places u_board_age)) (wc := (w_X0_likeAt c_board_likes u_board_askers u_board_places u_board_age)) (wc2 := (w_X0_likeAt c_board_likes u_board_askers u_board_places u_board_age)) (rest := []) (rv := [.int r2]) [1, 3] [1003, 1004, 1005] [0, 2] [0, 2, 1, 3] (c_X0_likeAt hc3) cw_X0_likeAt m_X1_67 dX1_bestLeft_14 rfl ⟨leb rfl, leb rfl⟩ ⟨rfl, rfl⟩ rfl ⟨_, rfl, rfl⟩ (Fit.mk rfl rfl rfl) rfl (leb rfl) (ROsub.nil rfl rfl) rfl ?_
      change GG _ _ _ _ _ _ _ _ _ (w_X1_bestLeft c_rest c_board_likes u_whole u_time u_board_askers u_board_places u_board_age) [some (.ref 0), some (.int v1), some (.int v2), none] [.int r2]
      refine G_istore_n dX1_bestLeft_17 rfl (ltb rfl) ?_
      change GG _ _ _ _ _ _ _ _ _ _ [some (.ref 0), some (.int v1), some (.int v2), some (.int r2)] _
      refine G_iload_n dX1_bestLeft_18 rfl rfl ?_
      refine G_iconst (-1 : Int32) dX1_bestLeft_19 (by decide) ?_
      refine G_icmp_eq 34 dX1_bestLeft_20 (by decide) (fun h4 => ?_) (fun h4 => ?_)
      · replace hf := ob_t h4 hf
        refine G_iload_n dX1_bestLeft_34 rfl rfl ?_
        obtain rfl := os hf
        exact G_ireturn dX1_bestLeft_35 rfl
      · replace hf := ob_f h4 hf
        refine G_aload_n dX1_bestLeft_23 rfl rfl ?_
        refine G_get (v := .ref 2) F_X1_19 dX1_bestLeft_24 rfl rfl ?_
        refine G_iload_n dX1_bestLeft_27 rfl rfl ?_
        obtain ⟨t5, ht5, hf⟩ := ob hf
        refine G_lald dX1_bestLeft_28 rfl ht5 ?_
        refine G_lconst 0 dX1_bestLeft_29 (by decide) ?_
        refine G_lcmp_le 36 dX1_bestLeft_30 dX1_bestLeft_31 (by decide) (fun h6 => ?_) (fun h6 => ?_)
        · replace hf := ob_t h6 hf
          refine G_iinc 1 dX1_bestLeft_36 (by decide) rfl (ltb rfl) ?_
          change GG _ _ _ _ _ _ _ _ _ _ [some (.ref 0), some (.int v1), some (.int (v2 + 1)), some (.int r2)] _
          refine G_goto 2 dX1_bestLeft_39 (by decide) ?_
          refine GG.sb (lv2 := [some (.ref 0), some (.int v1), some (.int (v2 + 1)), none]) ?_ (lvS_v rfl (lvS_v rfl (lvS_v rfl (lvS_n (lvS_e)))))
          exact ih hf
        · replace hf := ob_f h6 hf
          refine G_iload_n dX1_bestLeft_34 rfl rfl ?_
          obtain rfl := os hf
          exact G_ireturn dX1_bestLeft_35 rfl
def f_X1_bestLeft (N : Nat) (c_rest : Nat → Int64) (c_board_likes : Nat → Int32) (a1 : Int32) : Option (Int32) :=
  f_X1_bestLeft_2 N c_rest c_board_likes N a1 0
set_option maxHeartbeats 4000000 in
set_option maxRecDepth 100000 in
theorem c_X1_bestLeft {N : Nat} {c_rest : Nat → Int64} {c_board_likes : Nat → Int32}  {u_whole : Int64} {u_time : Int64} {u_board_askers : Int32} {u_board_places : Int32} {u_board_age : Int32} {a1 : Int32} {res : Int32} (hf : f_X1_bestLeft N c_rest c_board_likes a1 = some res) : Con mu_X1_bestLeft [.ref 0, .int a1] (w_X1_bestLeft c_rest c_board_likes u_whole u_time u_board_askers u_board_places u_board_age) (some (.int res)) (w_X1_bestLeft c_rest c_board_likes u_whole u_time u_board_askers u_board_places u_board_age) := by
  refine Con.mk (show plainName RX1 = true by decide +kernel) (leb rfl) (fun κ ω A ad => ?_)
  change GG mu_X1_bestLeft κ ω A (QR κ ω A ad (some (.int res)) (w_X1_bestLeft c_rest c_board_likes u_whole u_time u_board_askers u_board_places u_board_age)) ad 0 0 0 (w_X1_bestLeft c_rest c_board_likes u_whole u_time u_board_askers u_board_places u_board_age) [some (.ref 0), some (.int a1), none, none] []
  refine G_iconst 0 dX1_bestLeft_0 (by decide) ?_
  refine G_istore_n dX1_bestLeft_1 rfl (ltb rfl) ?_
  change GG _ _ _ _ _ _ _ _ _ _ [some (.ref 0), some (.int a1), some (.int 0), none] _
  exact g_X1_bestLeft_2 N hf
set_option maxRecDepth 20000 in
theorem dX1_seatAll_0 : decode cX1_seatAll 0 = .ok (.iconst 0, 1) := by decide +kernel
set_option maxRecDepth 20000 in
theorem dX1_seatAll_1 : decode cX1_seatAll 1 = .ok (.istore_n 1, 1) := by decide +kernel
set_option maxRecDepth 20000 in
theorem dX1_seatAll_2 : decode cX1_seatAll 2 = .ok (.iload_n 1, 1) := by decide +kernel
set_option maxRecDepth 20000 in
theorem dX1_seatAll_3 : decode cX1_seatAll 3 = .ok (.bipush 6, 2) := by decide +kernel
set_option maxRecDepth 20000 in
theorem dX1_seatAll_5 : decode cX1_seatAll 5 = .ok (.if_icmp .ge 16, 3) := by decide +kernel
set_option maxRecDepth 20000 in
theorem dX1_seatAll_8 : decode cX1_seatAll 8 = .ok (.aload_n 0, 1) := by decide +kernel
set_option maxRecDepth 20000 in
theorem dX1_seatAll_9 : decode cX1_seatAll 9 = .ok (.getfield 26, 3) := by decide +kernel
set_option maxRecDepth 20000 in
theorem dX1_seatAll_12 : decode cX1_seatAll 12 = .ok (.iload_n 1, 1) := by decide +kernel
set_option maxRecDepth 20000 in
theorem dX1_seatAll_13 : decode cX1_seatAll 13 = .ok (.iconst 0, 1) := by decide +kernel
set_option maxRecDepth 20000 in
theorem dX1_seatAll_14 : decode cX1_seatAll 14 = .ok (.iastore, 1) := by decide +kernel
set_option maxRecDepth 20000 in
theorem dX1_seatAll_15 : decode cX1_seatAll 15 = .ok (.iinc 1 1, 3) := by decide +kernel
set_option maxRecDepth 20000 in
theorem dX1_seatAll_18 : decode cX1_seatAll 18 = .ok (.goto (-16), 3) := by decide +kernel
set_option maxRecDepth 20000 in
theorem dX1_seatAll_21 : decode cX1_seatAll 21 = .ok (.iconst 0, 1) := by decide +kernel
set_option maxRecDepth 20000 in
theorem dX1_seatAll_22 : decode cX1_seatAll 22 = .ok (.istore_n 1, 1) := by decide +kernel
set_option maxRecDepth 20000 in
theorem dX1_seatAll_23 : decode cX1_seatAll 23 = .ok (.iload_n 1, 1) := by decide +kernel
set_option maxRecDepth 20000 in
theorem dX1_seatAll_24 : decode cX1_seatAll 24 = .ok (.aload_n 0, 1) := by decide +kernel
set_option maxRecDepth 20000 in
theorem dX1_seatAll_25 : decode cX1_seatAll 25 = .ok (.getfield 9, 3) := by decide +kernel
set_option maxRecDepth 20000 in
theorem dX1_seatAll_28 : decode cX1_seatAll 28 = .ok (.getfield 60, 3) := by decide +kernel
set_option maxRecDepth 20000 in
theorem dX1_seatAll_31 : decode cX1_seatAll 31 = .ok (.if_icmp .ge 42, 3) := by decide +kernel
set_option maxRecDepth 20000 in
theorem dX1_seatAll_34 : decode cX1_seatAll 34 = .ok (.aload_n 0, 1) := by decide +kernel
set_option maxRecDepth 20000 in
theorem dX1_seatAll_35 : decode cX1_seatAll 35 = .ok (.iload_n 1, 1) := by decide +kernel
set_option maxRecDepth 20000 in
theorem dX1_seatAll_36 : decode cX1_seatAll 36 = .ok (.invokevirtual 63, 3) := by decide +kernel
set_option maxRecDepth 20000 in
theorem dX1_seatAll_39 : decode cX1_seatAll 39 = .ok (.istore_n 2, 1) := by decide +kernel
set_option maxRecDepth 20000 in
theorem dX1_seatAll_40 : decode cX1_seatAll 40 = .ok (.aload_n 0, 1) := by decide +kernel
set_option maxRecDepth 20000 in
theorem dX1_seatAll_41 : decode cX1_seatAll 41 = .ok (.getfield 22, 3) := by decide +kernel
set_option maxRecDepth 20000 in
theorem dX1_seatAll_44 : decode cX1_seatAll 44 = .ok (.iload_n 1, 1) := by decide +kernel
set_option maxRecDepth 20000 in
theorem dX1_seatAll_45 : decode cX1_seatAll 45 = .ok (.iload_n 2, 1) := by decide +kernel
set_option maxRecDepth 20000 in
theorem dX1_seatAll_46 : decode cX1_seatAll 46 = .ok (.iastore, 1) := by decide +kernel
set_option maxRecDepth 20000 in
theorem dX1_seatAll_47 : decode cX1_seatAll 47 = .ok (.iload_n 2, 1) := by decide +kernel
set_option maxRecDepth 20000 in
theorem dX1_seatAll_48 : decode cX1_seatAll 48 = .ok (.ifCond .lt 19, 3) := by decide +kernel
set_option maxRecDepth 20000 in
theorem dX1_seatAll_51 : decode cX1_seatAll 51 = .ok (.iload_n 2, 1) := by decide +kernel
set_option maxRecDepth 20000 in
theorem dX1_seatAll_52 : decode cX1_seatAll 52 = .ok (.bipush 6, 2) := by decide +kernel
set_option maxRecDepth 20000 in
theorem dX1_seatAll_54 : decode cX1_seatAll 54 = .ok (.if_icmp .ge 13, 3) := by decide +kernel
set_option maxRecDepth 20000 in
theorem dX1_seatAll_57 : decode cX1_seatAll 57 = .ok (.aload_n 0, 1) := by decide +kernel
set_option maxRecDepth 20000 in
theorem dX1_seatAll_58 : decode cX1_seatAll 58 = .ok (.getfield 26, 3) := by decide +kernel
set_option maxRecDepth 20000 in
theorem dX1_seatAll_61 : decode cX1_seatAll 61 = .ok (.iload_n 2, 1) := by decide +kernel
set_option maxRecDepth 20000 in
theorem dX1_seatAll_62 : decode cX1_seatAll 62 = .ok (.dup2, 1) := by decide +kernel
set_option maxRecDepth 20000 in
theorem dX1_seatAll_63 : decode cX1_seatAll 63 = .ok (.iaload, 1) := by decide +kernel
set_option maxRecDepth 20000 in
theorem dX1_seatAll_64 : decode cX1_seatAll 64 = .ok (.iconst 1, 1) := by decide +kernel
set_option maxRecDepth 20000 in
theorem dX1_seatAll_65 : decode cX1_seatAll 65 = .ok (.iadd, 1) := by decide +kernel
set_option maxRecDepth 20000 in
theorem dX1_seatAll_66 : decode cX1_seatAll 66 = .ok (.iastore, 1) := by decide +kernel
set_option maxRecDepth 20000 in
theorem dX1_seatAll_67 : decode cX1_seatAll 67 = .ok (.iinc 1 1, 3) := by decide +kernel
set_option maxRecDepth 20000 in
theorem dX1_seatAll_70 : decode cX1_seatAll 70 = .ok (.goto (-47), 3) := by decide +kernel
set_option maxRecDepth 20000 in
theorem dX1_seatAll_73 : decode cX1_seatAll 73 = .ok (.return_, 1) := by decide +kernel
def f_X1_seatAll_23 (N : Nat) (c_board_askers : Int32) (c_rest : Nat → Int64) (c_board_likes : Nat → Int32) : Nat → (Nat → Int32) → (Nat → Int32) → Int32 → Option ((Nat → Int32) × (Nat → Int32))
  | 0, _, _, _ => none
  | n + 1, c_eaters, c_eatsAt, v1 =>
    (if c_board_askers ≤ v1 then
      some (c_eaters, c_eatsAt)
    else
      (f_X1_bestLeft N c_rest c_board_likes v1).bind fun r2 =>
      (wrI 8 c_eatsAt v1 r2).bind fun t4 =>
      (if r2 < 0 then
        f_X1_seatAll_23 N c_board_askers c_rest c_board_likes n c_eaters t4 (v1 + 1)
      else
        (if 6 ≤ r2 then
          f_X1_seatAll_23 N c_board_askers c_rest c_board_likes n c_eaters t4 (v1 + 1)
        else
          (rdI 6 c_eaters r2).bind fun t7 =>
          (wrI 6 c_eaters r2 (t7 + 1)).bind fun t8 =>
          f_X1_seatAll_23 N c_board_askers c_rest c_board_likes n t8 t4 (v1 + 1))))
set_option maxHeartbeats 4000000 in
set_option maxRecDepth 100000 in
theorem g_X1_seatAll_23 {κ : KC} {ω : KW} {A : Nat → Prop} {ad : Nat → Nat} {u_whole : Int64} {u_time : Int64} {u_board_places : Int32} {u_board_age : Int32} {N : Nat} {c_board_askers : Int32} {c_rest : Nat → Int64} {c_board_likes : Nat → Int32}  {res : (Nat → Int32) × (Nat → Int32)} : ∀ (n : Nat) {c_eaters : Nat → Int32} {c_eatsAt : Nat → Int32} {v1 : Int32}, f_X1_seatAll_23 N c_board_askers c_rest c_board_likes n c_eaters c_eatsAt v1 = some res → GG mu_X1_seatAll κ ω A (QR κ ω A ad (none) (w_X1_seatAll c_board_askers res.1 res.2 c_rest c_board_likes u_whole u_time u_board_places u_board_age)) ad 0 0 23 (w_X1_seatAll c_board_askers c_eaters c_eatsAt c_rest c_board_likes u_whole u_time u_board_places u_board_age) [some (.ref 0), some (.int v1), none] [] := by
  intro n
  induction n with
  | zero => intro c_eaters c_eatsAt v1 hf; exact ob_0 hf
  | succ n ih =>
    intro c_eaters c_eatsAt v1 hf
    refine G_iload_n dX1_seatAll_23 rfl rfl ?_
    refine G_aload_n dX1_seatAll_24 rfl rfl ?_
    refine G_get (v := .ref 1) F_X1_9 dX1_seatAll_25 rfl rfl ?_
    refine G_get (v := .int c_board_askers) F_X1_60 dX1_seatAll_28 rfl rfl ?_
    refine G_icmp_ge 73 dX1_seatAll_31 (by decide) (fun h1 => ?_) (fun h1 => ?_)
    · replace hf := ob_t h1 hf
      obtain rfl := os hf
      exact G_return dX1_seatAll_73 rfl
    · replace hf := ob_f h1 hf
      refine G_aload_n dX1_seatAll_34 rfl rfl ?_
      refine G_iload_n dX1_seatAll_35 rfl rfl ?_
      obtain ⟨r2, hc3, hf⟩ := ob hf
      refine G_callV (μ2 := mu_X1_bestLeft) (As := [.int v1]) (w2 := (w_X1_seatAll c_board_askers c_eaters c_eatsAt c_rest c_board_likes u_whole u_time u_board_places u_board_age)) (wc := (w_X1_bestLeft c_rest c_board_likes u_whole u_time c_board_askers u_board_places u_board_age)) (wc2 := (w_X1_bestLeft c_rest c_board_likes u_whole u_time c_board_askers u_board_places u_board_age)) (rest := []) (rv := [.int r2]) [0, 1, 4, 5] [1000, 3, 2, 1001, 1002, 1003] [2, 3] [2, 3, 0, 1, 4, 5] (c_X1_bestLeft hc3) cw_X1_bestLeft m_X1_63 dX1_seatAll_36 rfl ⟨leb rfl, leb rfl⟩ ⟨rfl, rfl⟩ rfl ⟨_, rfl, rfl⟩ (Fit.mk rfl rfl rfl) rfl (leb rfl) (ROsub.nil rfl rfl) rfl ?_
      change GG _ _ _ _ _ _ _ _ _ (w_X1_seatAll c_board_askers c_eaters c_eatsAt c_rest c_board_likes u_whole u_time u_board_places u_board_age) [some (.ref 0), some (.int v1), none] [.int r2]
      refine G_istore_n dX1_seatAll_39 rfl (ltb rfl) ?_
      change GG _ _ _ _ _ _ _ _ _ _ [some (.ref 0), some (.int v1), some (.int r2)] _
      refine G_aload_n dX1_seatAll_40 rfl rfl ?_
      refine G_get (v := .ref 3) F_X1_22 dX1_seatAll_41 rfl rfl ?_
      refine G_iload_n dX1_seatAll_44 rfl rfl ?_
      refine G_iload_n dX1_seatAll_45 rfl rfl ?_
      obtain ⟨t4, ht4, hf⟩ := ob hf
      refine G_iast (w2 := (w_X1_seatAll c_board_askers c_eaters t4 c_rest c_board_likes u_whole u_time u_board_places u_board_age)) dX1_seatAll_46 rfl ht4 rfl ?_
      refine G_iload_n dX1_seatAll_47 rfl rfl ?_
      refine G_if_lt 67 dX1_seatAll_48 (by decide) (fun h5 => ?_) (fun h5 => ?_)
      · replace hf := ob_t h5 hf
        refine G_iinc 1 dX1_seatAll_67 (by decide) rfl (ltb rfl) ?_
        change GG _ _ _ _ _ _ _ _ _ _ [some (.ref 0), some (.int (v1 + 1)), some (.int r2)] _
        refine G_goto 23 dX1_seatAll_70 (by decide) ?_
        refine GG.sb (lv2 := [some (.ref 0), some (.int (v1 + 1)), none]) ?_ (lvS_v rfl (lvS_v rfl (lvS_n (lvS_e))))
        exact ih hf
      · replace hf := ob_f h5 hf
        refine G_iload_n dX1_seatAll_51 rfl rfl ?_
        refine G_bipush 6 dX1_seatAll_52 (by decide) ?_
        refine G_icmp_ge 67 dX1_seatAll_54 (by decide) (fun h6 => ?_) (fun h6 => ?_)
        · replace hf := ob_t h6 hf
          refine G_iinc 1 dX1_seatAll_67 (by decide) rfl (ltb rfl) ?_
          change GG _ _ _ _ _ _ _ _ _ _ [some (.ref 0), some (.int (v1 + 1)), some (.int r2)] _
          refine G_goto 23 dX1_seatAll_70 (by decide) ?_
          refine GG.sb (lv2 := [some (.ref 0), some (.int (v1 + 1)), none]) ?_ (lvS_v rfl (lvS_v rfl (lvS_n (lvS_e))))
          exact ih hf
        · replace hf := ob_f h6 hf
          refine G_aload_n dX1_seatAll_57 rfl rfl ?_
          refine G_get (v := .ref 2) F_X1_26 dX1_seatAll_58 rfl rfl ?_
          refine G_iload_n dX1_seatAll_61 rfl rfl ?_
          refine G_dup2 dX1_seatAll_62 rfl rfl ?_
          obtain ⟨t7, ht7, hf⟩ := ob hf
          refine G_iald dX1_seatAll_63 rfl ht7 ?_
          refine G_iconst 1 dX1_seatAll_64 (by decide) ?_
          refine G_iadd dX1_seatAll_65 ?_
          obtain ⟨t8, ht8, hf⟩ := ob hf
          refine G_iast (w2 := (w_X1_seatAll c_board_askers t8 t4 c_rest c_board_likes u_whole u_time u_board_places u_board_age)) dX1_seatAll_66 rfl ht8 rfl ?_
          refine G_iinc 1 dX1_seatAll_67 (by decide) rfl (ltb rfl) ?_
          change GG _ _ _ _ _ _ _ _ _ _ [some (.ref 0), some (.int (v1 + 1)), some (.int r2)] _
          refine G_goto 23 dX1_seatAll_70 (by decide) ?_
          refine GG.sb (lv2 := [some (.ref 0), some (.int (v1 + 1)), none]) ?_ (lvS_v rfl (lvS_v rfl (lvS_n (lvS_e))))
          exact ih hf
def f_X1_seatAll_2 (N : Nat) (c_board_askers : Int32) (c_rest : Nat → Int64) (c_board_likes : Nat → Int32) : Nat → (Nat → Int32) → (Nat → Int32) → Int32 → Option ((Nat → Int32) × (Nat → Int32))
  | 0, _, _, _ => none
  | n + 1, c_eaters, c_eatsAt, v1 =>
    (if 6 ≤ v1 then
      f_X1_seatAll_23 N c_board_askers c_rest c_board_likes N c_eaters c_eatsAt 0
    else
      (wrI 6 c_eaters v1 0).bind fun t2 =>
      f_X1_seatAll_2 N c_board_askers c_rest c_board_likes n t2 c_eatsAt (v1 + 1))
set_option maxHeartbeats 4000000 in
set_option maxRecDepth 100000 in
theorem g_X1_seatAll_2 {κ : KC} {ω : KW} {A : Nat → Prop} {ad : Nat → Nat} {u_whole : Int64} {u_time : Int64} {u_board_places : Int32} {u_board_age : Int32} {N : Nat} {c_board_askers : Int32} {c_rest : Nat → Int64} {c_board_likes : Nat → Int32}  {res : (Nat → Int32) × (Nat → Int32)} : ∀ (n : Nat) {c_eaters : Nat → Int32} {c_eatsAt : Nat → Int32} {v1 : Int32}, f_X1_seatAll_2 N c_board_askers c_rest c_board_likes n c_eaters c_eatsAt v1 = some res → GG mu_X1_seatAll κ ω A (QR κ ω A ad (none) (w_X1_seatAll c_board_askers res.1 res.2 c_rest c_board_likes u_whole u_time u_board_places u_board_age)) ad 0 0 2 (w_X1_seatAll c_board_askers c_eaters c_eatsAt c_rest c_board_likes u_whole u_time u_board_places u_board_age) [some (.ref 0), some (.int v1), none] [] := by
  intro n
  induction n with
  | zero => intro c_eaters c_eatsAt v1 hf; exact ob_0 hf
  | succ n ih =>
    intro c_eaters c_eatsAt v1 hf
    refine G_iload_n dX1_seatAll_2 rfl rfl ?_
    refine G_bipush 6 dX1_seatAll_3 (by decide) ?_
    refine G_icmp_ge 21 dX1_seatAll_5 (by decide) (fun h1 => ?_) (fun h1 => ?_)
    · replace hf := ob_t h1 hf
      refine G_iconst 0 dX1_seatAll_21 (by decide) ?_
      refine G_istore_n dX1_seatAll_22 rfl (ltb rfl) ?_
      change GG _ _ _ _ _ _ _ _ _ _ [some (.ref 0), some (.int 0), none] _
      exact g_X1_seatAll_23 N hf
    · replace hf := ob_f h1 hf
      refine G_aload_n dX1_seatAll_8 rfl rfl ?_
      refine G_get (v := .ref 2) F_X1_26 dX1_seatAll_9 rfl rfl ?_
      refine G_iload_n dX1_seatAll_12 rfl rfl ?_
      refine G_iconst 0 dX1_seatAll_13 (by decide) ?_
      obtain ⟨t2, ht2, hf⟩ := ob hf
      refine G_iast (w2 := (w_X1_seatAll c_board_askers t2 c_eatsAt c_rest c_board_likes u_whole u_time u_board_places u_board_age)) dX1_seatAll_14 rfl ht2 rfl ?_
      refine G_iinc 1 dX1_seatAll_15 (by decide) rfl (ltb rfl) ?_
      change GG _ _ _ _ _ _ _ _ _ _ [some (.ref 0), some (.int (v1 + 1)), none] _
      refine G_goto 2 dX1_seatAll_18 (by decide) ?_
      exact ih hf
def f_X1_seatAll (N : Nat) (c_board_askers : Int32) (c_rest : Nat → Int64) (c_board_likes : Nat → Int32) (c_eaters : Nat → Int32) (c_eatsAt : Nat → Int32)  : Option ((Nat → Int32) × (Nat → Int32)) :=
  f_X1_seatAll_2 N c_board_askers c_rest c_board_likes N c_eaters c_eatsAt 0
set_option maxHeartbeats 4000000 in
set_option maxRecDepth 100000 in
theorem c_X1_seatAll {N : Nat} {c_board_askers : Int32} {c_rest : Nat → Int64} {c_board_likes : Nat → Int32} {c_eaters : Nat → Int32} {c_eatsAt : Nat → Int32} {u_whole : Int64} {u_time : Int64} {u_board_places : Int32} {u_board_age : Int32}  {res : (Nat → Int32) × (Nat → Int32)} (hf : f_X1_seatAll N c_board_askers c_rest c_board_likes c_eaters c_eatsAt = some res) : Con mu_X1_seatAll [.ref 0] (w_X1_seatAll c_board_askers c_eaters c_eatsAt c_rest c_board_likes u_whole u_time u_board_places u_board_age) (none) (w_X1_seatAll c_board_askers res.1 res.2 c_rest c_board_likes u_whole u_time u_board_places u_board_age) := by
  refine Con.mk (show plainName RX1 = true by decide +kernel) (leb rfl) (fun κ ω A ad => ?_)
  change GG mu_X1_seatAll κ ω A (QR κ ω A ad (none) (w_X1_seatAll c_board_askers res.1 res.2 c_rest c_board_likes u_whole u_time u_board_places u_board_age)) ad 0 0 0 (w_X1_seatAll c_board_askers c_eaters c_eatsAt c_rest c_board_likes u_whole u_time u_board_places u_board_age) [some (.ref 0), none, none] []
  refine G_iconst 0 dX1_seatAll_0 (by decide) ?_
  refine G_istore_n dX1_seatAll_1 rfl (ltb rfl) ?_
  change GG _ _ _ _ _ _ _ _ _ _ [some (.ref 0), some (.int 0), none] _
  exact g_X1_seatAll_2 N hf
set_option maxRecDepth 20000 in
theorem dX1_soonestUp_0 : decode cX1_soonestUp 0 = .ok (.iconst (-1), 1) := by decide +kernel
set_option maxRecDepth 20000 in
theorem dX1_soonestUp_1 : decode cX1_soonestUp 1 = .ok (.istore_n 1, 1) := by decide +kernel
set_option maxRecDepth 20000 in
theorem dX1_soonestUp_2 : decode cX1_soonestUp 2 = .ok (.aload_n 0, 1) := by decide +kernel
set_option maxRecDepth 20000 in
theorem dX1_soonestUp_3 : decode cX1_soonestUp 3 = .ok (.getfield 33, 3) := by decide +kernel
set_option maxRecDepth 20000 in
theorem dX1_soonestUp_6 : decode cX1_soonestUp 6 = .ok (.lstore_n 2, 1) := by decide +kernel
set_option maxRecDepth 20000 in
theorem dX1_soonestUp_7 : decode cX1_soonestUp 7 = .ok (.lconst 1, 1) := by decide +kernel
set_option maxRecDepth 20000 in
theorem dX1_soonestUp_8 : decode cX1_soonestUp 8 = .ok (.lstore 4, 2) := by decide +kernel
set_option maxRecDepth 20000 in
theorem dX1_soonestUp_10 : decode cX1_soonestUp 10 = .ok (.iconst 0, 1) := by decide +kernel
set_option maxRecDepth 20000 in
theorem dX1_soonestUp_11 : decode cX1_soonestUp 11 = .ok (.istore 6, 2) := by decide +kernel
set_option maxRecDepth 20000 in
theorem dX1_soonestUp_13 : decode cX1_soonestUp 13 = .ok (.iload 6, 2) := by decide +kernel
set_option maxRecDepth 20000 in
theorem dX1_soonestUp_15 : decode cX1_soonestUp 15 = .ok (.aload_n 0, 1) := by decide +kernel
set_option maxRecDepth 20000 in
theorem dX1_soonestUp_16 : decode cX1_soonestUp 16 = .ok (.getfield 9, 3) := by decide +kernel
set_option maxRecDepth 20000 in
theorem dX1_soonestUp_19 : decode cX1_soonestUp 19 = .ok (.getfield 36, 3) := by decide +kernel
set_option maxRecDepth 20000 in
theorem dX1_soonestUp_22 : decode cX1_soonestUp 22 = .ok (.if_icmp .ge 64, 3) := by decide +kernel
set_option maxRecDepth 20000 in
theorem dX1_soonestUp_25 : decode cX1_soonestUp 25 = .ok (.aload_n 0, 1) := by decide +kernel
set_option maxRecDepth 20000 in
theorem dX1_soonestUp_26 : decode cX1_soonestUp 26 = .ok (.getfield 26, 3) := by decide +kernel
set_option maxRecDepth 20000 in
theorem dX1_soonestUp_29 : decode cX1_soonestUp 29 = .ok (.iload 6, 2) := by decide +kernel
set_option maxRecDepth 20000 in
theorem dX1_soonestUp_31 : decode cX1_soonestUp 31 = .ok (.iaload, 1) := by decide +kernel
set_option maxRecDepth 20000 in
theorem dX1_soonestUp_32 : decode cX1_soonestUp 32 = .ok (.ifCond .le 48, 3) := by decide +kernel
set_option maxRecDepth 20000 in
theorem dX1_soonestUp_35 : decode cX1_soonestUp 35 = .ok (.aload_n 0, 1) := by decide +kernel
set_option maxRecDepth 20000 in
theorem dX1_soonestUp_36 : decode cX1_soonestUp 36 = .ok (.getfield 19, 3) := by decide +kernel
set_option maxRecDepth 20000 in
theorem dX1_soonestUp_39 : decode cX1_soonestUp 39 = .ok (.iload 6, 2) := by decide +kernel
set_option maxRecDepth 20000 in
theorem dX1_soonestUp_41 : decode cX1_soonestUp 41 = .ok (.laload, 1) := by decide +kernel
set_option maxRecDepth 20000 in
theorem dX1_soonestUp_42 : decode cX1_soonestUp 42 = .ok (.lload 4, 2) := by decide +kernel
set_option maxRecDepth 20000 in
theorem dX1_soonestUp_44 : decode cX1_soonestUp 44 = .ok (.lmul, 1) := by decide +kernel
set_option maxRecDepth 20000 in
theorem dX1_soonestUp_45 : decode cX1_soonestUp 45 = .ok (.lload_n 2, 1) := by decide +kernel
set_option maxRecDepth 20000 in
theorem dX1_soonestUp_46 : decode cX1_soonestUp 46 = .ok (.aload_n 0, 1) := by decide +kernel
set_option maxRecDepth 20000 in
theorem dX1_soonestUp_47 : decode cX1_soonestUp 47 = .ok (.getfield 26, 3) := by decide +kernel
set_option maxRecDepth 20000 in
theorem dX1_soonestUp_50 : decode cX1_soonestUp 50 = .ok (.iload 6, 2) := by decide +kernel
set_option maxRecDepth 20000 in
theorem dX1_soonestUp_52 : decode cX1_soonestUp 52 = .ok (.iaload, 1) := by decide +kernel
set_option maxRecDepth 20000 in
theorem dX1_soonestUp_53 : decode cX1_soonestUp 53 = .ok (.i2l, 1) := by decide +kernel
set_option maxRecDepth 20000 in
theorem dX1_soonestUp_54 : decode cX1_soonestUp 54 = .ok (.lmul, 1) := by decide +kernel
set_option maxRecDepth 20000 in
theorem dX1_soonestUp_55 : decode cX1_soonestUp 55 = .ok (.lcmp, 1) := by decide +kernel
set_option maxRecDepth 20000 in
theorem dX1_soonestUp_56 : decode cX1_soonestUp 56 = .ok (.ifCond .ge 24, 3) := by decide +kernel
set_option maxRecDepth 20000 in
theorem dX1_soonestUp_59 : decode cX1_soonestUp 59 = .ok (.iload 6, 2) := by decide +kernel
set_option maxRecDepth 20000 in
theorem dX1_soonestUp_61 : decode cX1_soonestUp 61 = .ok (.istore_n 1, 1) := by decide +kernel
set_option maxRecDepth 20000 in
theorem dX1_soonestUp_62 : decode cX1_soonestUp 62 = .ok (.aload_n 0, 1) := by decide +kernel
set_option maxRecDepth 20000 in
theorem dX1_soonestUp_63 : decode cX1_soonestUp 63 = .ok (.getfield 19, 3) := by decide +kernel
set_option maxRecDepth 20000 in
theorem dX1_soonestUp_66 : decode cX1_soonestUp 66 = .ok (.iload 6, 2) := by decide +kernel
set_option maxRecDepth 20000 in
theorem dX1_soonestUp_68 : decode cX1_soonestUp 68 = .ok (.laload, 1) := by decide +kernel
set_option maxRecDepth 20000 in
theorem dX1_soonestUp_69 : decode cX1_soonestUp 69 = .ok (.lstore_n 2, 1) := by decide +kernel
set_option maxRecDepth 20000 in
theorem dX1_soonestUp_70 : decode cX1_soonestUp 70 = .ok (.aload_n 0, 1) := by decide +kernel
set_option maxRecDepth 20000 in
theorem dX1_soonestUp_71 : decode cX1_soonestUp 71 = .ok (.getfield 26, 3) := by decide +kernel
set_option maxRecDepth 20000 in
theorem dX1_soonestUp_74 : decode cX1_soonestUp 74 = .ok (.iload 6, 2) := by decide +kernel
set_option maxRecDepth 20000 in
theorem dX1_soonestUp_76 : decode cX1_soonestUp 76 = .ok (.iaload, 1) := by decide +kernel
set_option maxRecDepth 20000 in
theorem dX1_soonestUp_77 : decode cX1_soonestUp 77 = .ok (.i2l, 1) := by decide +kernel
set_option maxRecDepth 20000 in
theorem dX1_soonestUp_78 : decode cX1_soonestUp 78 = .ok (.lstore 4, 2) := by decide +kernel
set_option maxRecDepth 20000 in
theorem dX1_soonestUp_80 : decode cX1_soonestUp 80 = .ok (.iinc 6 1, 3) := by decide +kernel
set_option maxRecDepth 20000 in
theorem dX1_soonestUp_83 : decode cX1_soonestUp 83 = .ok (.goto (-70), 3) := by decide +kernel
set_option maxRecDepth 20000 in
theorem dX1_soonestUp_86 : decode cX1_soonestUp 86 = .ok (.iload_n 1, 1) := by decide +kernel
set_option maxRecDepth 20000 in
theorem dX1_soonestUp_87 : decode cX1_soonestUp 87 = .ok (.ireturn, 1) := by decide +kernel
def f_X1_soonestUp_13 (N : Nat) (c_time : Int64) (c_board_places : Int32) (c_eaters : Nat → Int32) (c_rest : Nat → Int64) : Nat → Int32 → Int64 → Int64 → Int32 → Option (Int32)
  | 0, _, _, _, _ => none
  | n + 1, v1, v2, v4, v6 =>
    (if c_board_places ≤ v6 then
      some v1
    else
      (rdI 6 c_eaters v6).bind fun t2 =>
      (if t2 ≤ 0 then
        f_X1_soonestUp_13 N c_time c_board_places c_eaters c_rest n v1 v2 v4 (v6 + 1)
      else
        (rdL 6 c_rest v6).bind fun t4 =>
        (rdI 6 c_eaters v6).bind fun t5 =>
        (if (v2 * t5.toInt64) ≤ (t4 * v4) then
          f_X1_soonestUp_13 N c_time c_board_places c_eaters c_rest n v1 v2 v4 (v6 + 1)
        else
          (rdL 6 c_rest v6).bind fun t7 =>
          (rdI 6 c_eaters v6).bind fun t8 =>
          f_X1_soonestUp_13 N c_time c_board_places c_eaters c_rest n v6 t7 t8.toInt64 (v6 + 1))))
set_option maxHeartbeats 4000000 in
set_option maxRecDepth 100000 in
theorem g_X1_soonestUp_13 {κ : KC} {ω : KW} {A : Nat → Prop} {ad : Nat → Nat} {u_whole : Int64} {u_board_askers : Int32} {u_board_age : Int32} {N : Nat} {c_time : Int64} {c_board_places : Int32} {c_eaters : Nat → Int32} {c_rest : Nat → Int64}  {res : Int32} : ∀ (n : Nat) {v1 : Int32} {v2 : Int64} {v4 : Int64} {v6 : Int32}, f_X1_soonestUp_13 N c_time c_board_places c_eaters c_rest n v1 v2 v4 v6 = some res → GG mu_X1_soonestUp κ ω A (QR κ ω A ad (some (.int res)) (w_X1_soonestUp c_time c_board_places c_eaters c_rest u_whole u_board_askers u_board_age)) ad 0 0 13 (w_X1_soonestUp c_time c_board_places c_eaters c_rest u_whole u_board_askers u_board_age) [some (.ref 0), some (.int v1), some (.long v2), none, some (.long v4), none, some (.int v6)] [] := by
  intro n
  induction n with
  | zero => intro v1 v2 v4 v6 hf; exact ob_0 hf
  | succ n ih =>
    intro v1 v2 v4 v6 hf
    refine G_iload dX1_soonestUp_13 rfl ?_
    refine G_aload_n dX1_soonestUp_15 rfl rfl ?_
    refine G_get (v := .ref 1) F_X1_9 dX1_soonestUp_16 rfl rfl ?_
    refine G_get (v := .int c_board_places) F_X1_36 dX1_soonestUp_19 rfl rfl ?_
    refine G_icmp_ge 86 dX1_soonestUp_22 (by decide) (fun h1 => ?_) (fun h1 => ?_)
    · replace hf := ob_t h1 hf
      refine G_iload_n dX1_soonestUp_86 rfl rfl ?_
      obtain rfl := os hf
      exact G_ireturn dX1_soonestUp_87 rfl
    · replace hf := ob_f h1 hf
      refine G_aload_n dX1_soonestUp_25 rfl rfl ?_
      refine G_get (v := .ref 2) F_X1_26 dX1_soonestUp_26 rfl rfl ?_
      refine G_iload dX1_soonestUp_29 rfl ?_
      obtain ⟨t2, ht2, hf⟩ := ob hf
      refine G_iald dX1_soonestUp_31 rfl ht2 ?_
      refine G_if_le 80 dX1_soonestUp_32 (by decide) (fun h3 => ?_) (fun h3 => ?_)
      · replace hf := ob_t h3 hf
        refine G_iinc 1 dX1_soonestUp_80 (by decide) rfl (ltb rfl) ?_
        change GG _ _ _ _ _ _ _ _ _ _ [some (.ref 0), some (.int v1), some (.long v2), none, some (.long v4), none, some (.int (v6 + 1))] _
        refine G_goto 13 dX1_soonestUp_83 (by decide) ?_
        exact ih hf
      · replace hf := ob_f h3 hf
        refine G_aload_n dX1_soonestUp_35 rfl rfl ?_
        refine G_get (v := .ref 3) F_X1_19 dX1_soonestUp_36 rfl rfl ?_
        refine G_iload dX1_soonestUp_39 rfl ?_
        obtain ⟨t4, ht4, hf⟩ := ob hf
        refine G_lald dX1_soonestUp_41 rfl ht4 ?_
        refine G_lload dX1_soonestUp_42 rfl ?_
        refine G_lmul dX1_soonestUp_44 ?_
        refine G_lload_n dX1_soonestUp_45 rfl rfl ?_
        refine G_aload_n dX1_soonestUp_46 rfl rfl ?_
        refine G_get (v := .ref 2) F_X1_26 dX1_soonestUp_47 rfl rfl ?_
        refine G_iload dX1_soonestUp_50 rfl ?_
        obtain ⟨t5, ht5, hf⟩ := ob hf
        refine G_iald dX1_soonestUp_52 rfl ht5 ?_
        refine G_i2l dX1_soonestUp_53 ?_
        refine G_lmul dX1_soonestUp_54 ?_
        refine G_lcmp_ge 80 dX1_soonestUp_55 dX1_soonestUp_56 (by decide) (fun h6 => ?_) (fun h6 => ?_)
        · replace hf := ob_t h6 hf
          refine G_iinc 1 dX1_soonestUp_80 (by decide) rfl (ltb rfl) ?_
          change GG _ _ _ _ _ _ _ _ _ _ [some (.ref 0), some (.int v1), some (.long v2), none, some (.long v4), none, some (.int (v6 + 1))] _
          refine G_goto 13 dX1_soonestUp_83 (by decide) ?_
          exact ih hf
        · replace hf := ob_f h6 hf
          refine G_iload dX1_soonestUp_59 rfl ?_
          refine G_istore_n dX1_soonestUp_61 rfl (ltb rfl) ?_
          change GG _ _ _ _ _ _ _ _ _ _ [some (.ref 0), some (.int v6), some (.long v2), none, some (.long v4), none, some (.int v6)] _
          refine G_aload_n dX1_soonestUp_62 rfl rfl ?_
          refine G_get (v := .ref 3) F_X1_19 dX1_soonestUp_63 rfl rfl ?_
          refine G_iload dX1_soonestUp_66 rfl ?_
          obtain ⟨t7, ht7, hf⟩ := ob hf
          refine G_lald dX1_soonestUp_68 rfl ht7 ?_
          refine G_lstore_n dX1_soonestUp_69 rfl (ltb rfl) ?_
          change GG _ _ _ _ _ _ _ _ _ _ [some (.ref 0), some (.int v6), some (.long t7), none, some (.long v4), none, some (.int v6)] _
          refine G_aload_n dX1_soonestUp_70 rfl rfl ?_
          refine G_get (v := .ref 2) F_X1_26 dX1_soonestUp_71 rfl rfl ?_
          refine G_iload dX1_soonestUp_74 rfl ?_
          obtain ⟨t8, ht8, hf⟩ := ob hf
          refine G_iald dX1_soonestUp_76 rfl ht8 ?_
          refine G_i2l dX1_soonestUp_77 ?_
          refine G_lstore dX1_soonestUp_78 (ltb rfl) ?_
          change GG _ _ _ _ _ _ _ _ _ _ [some (.ref 0), some (.int v6), some (.long t7), none, some (.long t8.toInt64), none, some (.int v6)] _
          refine G_iinc 1 dX1_soonestUp_80 (by decide) rfl (ltb rfl) ?_
          change GG _ _ _ _ _ _ _ _ _ _ [some (.ref 0), some (.int v6), some (.long t7), none, some (.long t8.toInt64), none, some (.int (v6 + 1))] _
          refine G_goto 13 dX1_soonestUp_83 (by decide) ?_
          exact ih hf
def f_X1_soonestUp (N : Nat) (c_time : Int64) (c_board_places : Int32) (c_eaters : Nat → Int32) (c_rest : Nat → Int64)  : Option (Int32) :=
  f_X1_soonestUp_13 N c_time c_board_places c_eaters c_rest N (-1 : Int32) c_time 1 0
set_option maxHeartbeats 4000000 in
set_option maxRecDepth 100000 in
theorem c_X1_soonestUp {N : Nat} {c_time : Int64} {c_board_places : Int32} {c_eaters : Nat → Int32} {c_rest : Nat → Int64}  {u_whole : Int64} {u_board_askers : Int32} {u_board_age : Int32}  {res : Int32} (hf : f_X1_soonestUp N c_time c_board_places c_eaters c_rest = some res) : Con mu_X1_soonestUp [.ref 0] (w_X1_soonestUp c_time c_board_places c_eaters c_rest u_whole u_board_askers u_board_age) (some (.int res)) (w_X1_soonestUp c_time c_board_places c_eaters c_rest u_whole u_board_askers u_board_age) := by
  refine Con.mk (show plainName RX1 = true by decide +kernel) (leb rfl) (fun κ ω A ad => ?_)
  change GG mu_X1_soonestUp κ ω A (QR κ ω A ad (some (.int res)) (w_X1_soonestUp c_time c_board_places c_eaters c_rest u_whole u_board_askers u_board_age)) ad 0 0 0 (w_X1_soonestUp c_time c_board_places c_eaters c_rest u_whole u_board_askers u_board_age) [some (.ref 0), none, none, none, none, none, none] []
  refine G_iconst (-1 : Int32) dX1_soonestUp_0 (by decide) ?_
  refine G_istore_n dX1_soonestUp_1 rfl (ltb rfl) ?_
  change GG _ _ _ _ _ _ _ _ _ _ [some (.ref 0), some (.int (-1 : Int32)), none, none, none, none, none] _
  refine G_aload_n dX1_soonestUp_2 rfl rfl ?_
  refine G_get (v := .long c_time) F_X1_33 dX1_soonestUp_3 rfl rfl ?_
  refine G_lstore_n dX1_soonestUp_6 rfl (ltb rfl) ?_
  change GG _ _ _ _ _ _ _ _ _ _ [some (.ref 0), some (.int (-1 : Int32)), some (.long c_time), none, none, none, none] _
  refine G_lconst 1 dX1_soonestUp_7 (by decide) ?_
  refine G_lstore dX1_soonestUp_8 (ltb rfl) ?_
  change GG _ _ _ _ _ _ _ _ _ _ [some (.ref 0), some (.int (-1 : Int32)), some (.long c_time), none, some (.long 1), none, none] _
  refine G_iconst 0 dX1_soonestUp_10 (by decide) ?_
  refine G_istore dX1_soonestUp_11 (ltb rfl) ?_
  change GG _ _ _ _ _ _ _ _ _ _ [some (.ref 0), some (.int (-1 : Int32)), some (.long c_time), none, some (.long 1), none, some (.int 0)] _
  exact g_X1_soonestUp_13 N hf
set_option maxRecDepth 20000 in
theorem dX1_eatFor_0 : decode cX1_eatFor 0 = .ok (.iconst 0, 1) := by decide +kernel
set_option maxRecDepth 20000 in
theorem dX1_eatFor_1 : decode cX1_eatFor 1 = .ok (.istore_n 3, 1) := by decide +kernel
set_option maxRecDepth 20000 in
theorem dX1_eatFor_2 : decode cX1_eatFor 2 = .ok (.iload_n 3, 1) := by decide +kernel
set_option maxRecDepth 20000 in
theorem dX1_eatFor_3 : decode cX1_eatFor 3 = .ok (.aload_n 0, 1) := by decide +kernel
set_option maxRecDepth 20000 in
theorem dX1_eatFor_4 : decode cX1_eatFor 4 = .ok (.getfield 9, 3) := by decide +kernel
set_option maxRecDepth 20000 in
theorem dX1_eatFor_7 : decode cX1_eatFor 7 = .ok (.getfield 60, 3) := by decide +kernel
set_option maxRecDepth 20000 in
theorem dX1_eatFor_10 : decode cX1_eatFor 10 = .ok (.if_icmp .ge 56, 3) := by decide +kernel
set_option maxRecDepth 20000 in
theorem dX1_eatFor_13 : decode cX1_eatFor 13 = .ok (.aload_n 0, 1) := by decide +kernel
set_option maxRecDepth 20000 in
theorem dX1_eatFor_14 : decode cX1_eatFor 14 = .ok (.getfield 22, 3) := by decide +kernel
set_option maxRecDepth 20000 in
theorem dX1_eatFor_17 : decode cX1_eatFor 17 = .ok (.iload_n 3, 1) := by decide +kernel
set_option maxRecDepth 20000 in
theorem dX1_eatFor_18 : decode cX1_eatFor 18 = .ok (.iaload, 1) := by decide +kernel
set_option maxRecDepth 20000 in
theorem dX1_eatFor_19 : decode cX1_eatFor 19 = .ok (.istore 4, 2) := by decide +kernel
set_option maxRecDepth 20000 in
theorem dX1_eatFor_21 : decode cX1_eatFor 21 = .ok (.iload 4, 2) := by decide +kernel
set_option maxRecDepth 20000 in
theorem dX1_eatFor_23 : decode cX1_eatFor 23 = .ok (.ifCond .lt 37, 3) := by decide +kernel
set_option maxRecDepth 20000 in
theorem dX1_eatFor_26 : decode cX1_eatFor 26 = .ok (.iload 4, 2) := by decide +kernel
set_option maxRecDepth 20000 in
theorem dX1_eatFor_28 : decode cX1_eatFor 28 = .ok (.bipush 6, 2) := by decide +kernel
set_option maxRecDepth 20000 in
theorem dX1_eatFor_30 : decode cX1_eatFor 30 = .ok (.if_icmp .ge 30, 3) := by decide +kernel
set_option maxRecDepth 20000 in
theorem dX1_eatFor_33 : decode cX1_eatFor 33 = .ok (.aload_n 0, 1) := by decide +kernel
set_option maxRecDepth 20000 in
theorem dX1_eatFor_34 : decode cX1_eatFor 34 = .ok (.getfield 15, 3) := by decide +kernel
set_option maxRecDepth 20000 in
theorem dX1_eatFor_37 : decode cX1_eatFor 37 = .ok (.iload_n 3, 1) := by decide +kernel
set_option maxRecDepth 20000 in
theorem dX1_eatFor_38 : decode cX1_eatFor 38 = .ok (.bipush 6, 2) := by decide +kernel
set_option maxRecDepth 20000 in
theorem dX1_eatFor_40 : decode cX1_eatFor 40 = .ok (.imul, 1) := by decide +kernel
set_option maxRecDepth 20000 in
theorem dX1_eatFor_41 : decode cX1_eatFor 41 = .ok (.iload 4, 2) := by decide +kernel
set_option maxRecDepth 20000 in
theorem dX1_eatFor_43 : decode cX1_eatFor 43 = .ok (.iadd, 1) := by decide +kernel
set_option maxRecDepth 20000 in
theorem dX1_eatFor_44 : decode cX1_eatFor 44 = .ok (.dup2, 1) := by decide +kernel
set_option maxRecDepth 20000 in
theorem dX1_eatFor_45 : decode cX1_eatFor 45 = .ok (.laload, 1) := by decide +kernel
set_option maxRecDepth 20000 in
theorem dX1_eatFor_46 : decode cX1_eatFor 46 = .ok (.lload_n 1, 1) := by decide +kernel
set_option maxRecDepth 20000 in
theorem dX1_eatFor_47 : decode cX1_eatFor 47 = .ok (.ladd, 1) := by decide +kernel
set_option maxRecDepth 20000 in
theorem dX1_eatFor_48 : decode cX1_eatFor 48 = .ok (.lastore, 1) := by decide +kernel
set_option maxRecDepth 20000 in
theorem dX1_eatFor_49 : decode cX1_eatFor 49 = .ok (.aload_n 0, 1) := by decide +kernel
set_option maxRecDepth 20000 in
theorem dX1_eatFor_50 : decode cX1_eatFor 50 = .ok (.getfield 19, 3) := by decide +kernel
set_option maxRecDepth 20000 in
theorem dX1_eatFor_53 : decode cX1_eatFor 53 = .ok (.iload 4, 2) := by decide +kernel
set_option maxRecDepth 20000 in
theorem dX1_eatFor_55 : decode cX1_eatFor 55 = .ok (.dup2, 1) := by decide +kernel
set_option maxRecDepth 20000 in
theorem dX1_eatFor_56 : decode cX1_eatFor 56 = .ok (.laload, 1) := by decide +kernel
set_option maxRecDepth 20000 in
theorem dX1_eatFor_57 : decode cX1_eatFor 57 = .ok (.lload_n 1, 1) := by decide +kernel
set_option maxRecDepth 20000 in
theorem dX1_eatFor_58 : decode cX1_eatFor 58 = .ok (.lsub, 1) := by decide +kernel
set_option maxRecDepth 20000 in
theorem dX1_eatFor_59 : decode cX1_eatFor 59 = .ok (.lastore, 1) := by decide +kernel
set_option maxRecDepth 20000 in
theorem dX1_eatFor_60 : decode cX1_eatFor 60 = .ok (.iinc 3 1, 3) := by decide +kernel
set_option maxRecDepth 20000 in
theorem dX1_eatFor_63 : decode cX1_eatFor 63 = .ok (.goto (-61), 3) := by decide +kernel
set_option maxRecDepth 20000 in
theorem dX1_eatFor_66 : decode cX1_eatFor 66 = .ok (.aload_n 0, 1) := by decide +kernel
set_option maxRecDepth 20000 in
theorem dX1_eatFor_67 : decode cX1_eatFor 67 = .ok (.dup, 1) := by decide +kernel
set_option maxRecDepth 20000 in
theorem dX1_eatFor_68 : decode cX1_eatFor 68 = .ok (.getfield 33, 3) := by decide +kernel
set_option maxRecDepth 20000 in
theorem dX1_eatFor_71 : decode cX1_eatFor 71 = .ok (.lload_n 1, 1) := by decide +kernel
set_option maxRecDepth 20000 in
theorem dX1_eatFor_72 : decode cX1_eatFor 72 = .ok (.lsub, 1) := by decide +kernel
set_option maxRecDepth 20000 in
theorem dX1_eatFor_73 : decode cX1_eatFor 73 = .ok (.putfield 33, 3) := by decide +kernel
set_option maxRecDepth 20000 in
theorem dX1_eatFor_76 : decode cX1_eatFor 76 = .ok (.return_, 1) := by decide +kernel
def f_X1_eatFor_2 (N : Nat) (c_board_askers : Int32) (c_eatsAt : Nat → Int32) : Nat → Int64 → (Nat → Int64) → (Nat → Int64) → Int64 → Int32 → Option (Int64 × (Nat → Int64) × (Nat → Int64))
  | 0, _, _, _, _, _ => none
  | n + 1, c_time, c_eaten, c_rest, v1, v3 =>
    (if c_board_askers ≤ v3 then
      some (c_time - v1, c_eaten, c_rest)
    else
      (rdI 8 c_eatsAt v3).bind fun t2 =>
      (if t2 < 0 then
        f_X1_eatFor_2 N c_board_askers c_eatsAt n c_time c_eaten c_rest v1 (v3 + 1)
      else
        (if 6 ≤ t2 then
          f_X1_eatFor_2 N c_board_askers c_eatsAt n c_time c_eaten c_rest v1 (v3 + 1)
        else
          (rdL 48 c_eaten ((v3 * 6) + t2)).bind fun t5 =>
          (wrL 48 c_eaten ((v3 * 6) + t2) (t5 + v1)).bind fun t6 =>
          (rdL 6 c_rest t2).bind fun t7 =>
          (wrL 6 c_rest t2 (t7 - v1)).bind fun t8 =>
          f_X1_eatFor_2 N c_board_askers c_eatsAt n c_time t6 t8 v1 (v3 + 1))))
set_option maxHeartbeats 4000000 in
set_option maxRecDepth 100000 in
theorem g_X1_eatFor_2 {κ : KC} {ω : KW} {A : Nat → Prop} {ad : Nat → Nat} {u_whole : Int64} {u_board_places : Int32} {u_board_age : Int32} {N : Nat} {c_board_askers : Int32} {c_eatsAt : Nat → Int32}  {res : Int64 × (Nat → Int64) × (Nat → Int64)} : ∀ (n : Nat) {c_time : Int64} {c_eaten : Nat → Int64} {c_rest : Nat → Int64} {v1 : Int64} {v3 : Int32}, f_X1_eatFor_2 N c_board_askers c_eatsAt n c_time c_eaten c_rest v1 v3 = some res → GG mu_X1_eatFor κ ω A (QR κ ω A ad (none) (w_X1_eatFor res.1 c_board_askers res.2.1 c_eatsAt res.2.2 u_whole u_board_places u_board_age)) ad 0 0 2 (w_X1_eatFor c_time c_board_askers c_eaten c_eatsAt c_rest u_whole u_board_places u_board_age) [some (.ref 0), some (.long v1), none, some (.int v3), none] [] := by
  intro n
  induction n with
  | zero => intro c_time c_eaten c_rest v1 v3 hf; exact ob_0 hf
  | succ n ih =>
    intro c_time c_eaten c_rest v1 v3 hf
    refine G_iload_n dX1_eatFor_2 rfl rfl ?_
    refine G_aload_n dX1_eatFor_3 rfl rfl ?_
    refine G_get (v := .ref 1) F_X1_9 dX1_eatFor_4 rfl rfl ?_
    refine G_get (v := .int c_board_askers) F_X1_60 dX1_eatFor_7 rfl rfl ?_
    refine G_icmp_ge 66 dX1_eatFor_10 (by decide) (fun h1 => ?_) (fun h1 => ?_)
    · replace hf := ob_t h1 hf
      refine G_aload_n dX1_eatFor_66 rfl rfl ?_
      refine G_dup dX1_eatFor_67 rfl ?_
      refine G_get (v := .long c_time) F_X1_33 dX1_eatFor_68 rfl rfl ?_
      refine G_lload_n dX1_eatFor_71 rfl rfl ?_
      refine G_lsub dX1_eatFor_72 ?_
      refine G_put (w2 := (w_X1_eatFor (c_time - v1) c_board_askers c_eaten c_eatsAt c_rest u_whole u_board_places u_board_age)) F_X1_33 dX1_eatFor_73 rfl rfl rfl (ltb rfl) rfl ?_
      obtain rfl := os hf
      exact G_return dX1_eatFor_76 rfl
    · replace hf := ob_f h1 hf
      refine G_aload_n dX1_eatFor_13 rfl rfl ?_
      refine G_get (v := .ref 3) F_X1_22 dX1_eatFor_14 rfl rfl ?_
      refine G_iload_n dX1_eatFor_17 rfl rfl ?_
      obtain ⟨t2, ht2, hf⟩ := ob hf
      refine G_iald dX1_eatFor_18 rfl ht2 ?_
      refine G_istore dX1_eatFor_19 (ltb rfl) ?_
      change GG _ _ _ _ _ _ _ _ _ _ [some (.ref 0), some (.long v1), none, some (.int v3), some (.int t2)] _
      refine G_iload dX1_eatFor_21 rfl ?_
      refine G_if_lt 60 dX1_eatFor_23 (by decide) (fun h3 => ?_) (fun h3 => ?_)
      · replace hf := ob_t h3 hf
        refine G_iinc 1 dX1_eatFor_60 (by decide) rfl (ltb rfl) ?_
        change GG _ _ _ _ _ _ _ _ _ _ [some (.ref 0), some (.long v1), none, some (.int (v3 + 1)), some (.int t2)] _
        refine G_goto 2 dX1_eatFor_63 (by decide) ?_
        refine GG.sb (lv2 := [some (.ref 0), some (.long v1), none, some (.int (v3 + 1)), none]) ?_ (lvS_v rfl (lvS_v rfl (lvS_n (lvS_v rfl (lvS_n (lvS_e))))))
        exact ih hf
      · replace hf := ob_f h3 hf
        refine G_iload dX1_eatFor_26 rfl ?_
        refine G_bipush 6 dX1_eatFor_28 (by decide) ?_
        refine G_icmp_ge 60 dX1_eatFor_30 (by decide) (fun h4 => ?_) (fun h4 => ?_)
        · replace hf := ob_t h4 hf
          refine G_iinc 1 dX1_eatFor_60 (by decide) rfl (ltb rfl) ?_
          change GG _ _ _ _ _ _ _ _ _ _ [some (.ref 0), some (.long v1), none, some (.int (v3 + 1)), some (.int t2)] _
          refine G_goto 2 dX1_eatFor_63 (by decide) ?_
          refine GG.sb (lv2 := [some (.ref 0), some (.long v1), none, some (.int (v3 + 1)), none]) ?_ (lvS_v rfl (lvS_v rfl (lvS_n (lvS_v rfl (lvS_n (lvS_e))))))
          exact ih hf
        · replace hf := ob_f h4 hf
          refine G_aload_n dX1_eatFor_33 rfl rfl ?_
          refine G_get (v := .ref 2) F_X1_15 dX1_eatFor_34 rfl rfl ?_
          refine G_iload_n dX1_eatFor_37 rfl rfl ?_
          refine G_bipush 6 dX1_eatFor_38 (by decide) ?_
          refine G_imul dX1_eatFor_40 ?_
          refine G_iload dX1_eatFor_41 rfl ?_
          refine G_iadd dX1_eatFor_43 ?_
          refine G_dup2 dX1_eatFor_44 rfl rfl ?_
          obtain ⟨t5, ht5, hf⟩ := ob hf
          refine G_lald dX1_eatFor_45 rfl ht5 ?_
          refine G_lload_n dX1_eatFor_46 rfl rfl ?_
          refine G_ladd dX1_eatFor_47 ?_
          obtain ⟨t6, ht6, hf⟩ := ob hf
          refine G_last (w2 := (w_X1_eatFor c_time c_board_askers t6 c_eatsAt c_rest u_whole u_board_places u_board_age)) dX1_eatFor_48 rfl ht6 rfl ?_
          refine G_aload_n dX1_eatFor_49 rfl rfl ?_
          refine G_get (v := .ref 4) F_X1_19 dX1_eatFor_50 rfl rfl ?_
          refine G_iload dX1_eatFor_53 rfl ?_
          refine G_dup2 dX1_eatFor_55 rfl rfl ?_
          obtain ⟨t7, ht7, hf⟩ := ob hf
          refine G_lald dX1_eatFor_56 rfl ht7 ?_
          refine G_lload_n dX1_eatFor_57 rfl rfl ?_
          refine G_lsub dX1_eatFor_58 ?_
          obtain ⟨t8, ht8, hf⟩ := ob hf
          refine G_last (w2 := (w_X1_eatFor c_time c_board_askers t6 c_eatsAt t8 u_whole u_board_places u_board_age)) dX1_eatFor_59 rfl ht8 rfl ?_
          refine G_iinc 1 dX1_eatFor_60 (by decide) rfl (ltb rfl) ?_
          change GG _ _ _ _ _ _ _ _ _ _ [some (.ref 0), some (.long v1), none, some (.int (v3 + 1)), some (.int t2)] _
          refine G_goto 2 dX1_eatFor_63 (by decide) ?_
          refine GG.sb (lv2 := [some (.ref 0), some (.long v1), none, some (.int (v3 + 1)), none]) ?_ (lvS_v rfl (lvS_v rfl (lvS_n (lvS_v rfl (lvS_n (lvS_e))))))
          exact ih hf
def f_X1_eatFor (N : Nat) (c_board_askers : Int32) (c_eatsAt : Nat → Int32) (c_time : Int64) (c_eaten : Nat → Int64) (c_rest : Nat → Int64) (a1 : Int64) : Option (Int64 × (Nat → Int64) × (Nat → Int64)) :=
  f_X1_eatFor_2 N c_board_askers c_eatsAt N c_time c_eaten c_rest a1 0
set_option maxHeartbeats 4000000 in
set_option maxRecDepth 100000 in
theorem c_X1_eatFor {N : Nat} {c_board_askers : Int32} {c_eatsAt : Nat → Int32} {c_time : Int64} {c_eaten : Nat → Int64} {c_rest : Nat → Int64} {u_whole : Int64} {u_board_places : Int32} {u_board_age : Int32} {a1 : Int64} {res : Int64 × (Nat → Int64) × (Nat → Int64)} (hf : f_X1_eatFor N c_board_askers c_eatsAt c_time c_eaten c_rest a1 = some res) : Con mu_X1_eatFor [.ref 0, .long a1] (w_X1_eatFor c_time c_board_askers c_eaten c_eatsAt c_rest u_whole u_board_places u_board_age) (none) (w_X1_eatFor res.1 c_board_askers res.2.1 c_eatsAt res.2.2 u_whole u_board_places u_board_age) := by
  refine Con.mk (show plainName RX1 = true by decide +kernel) (leb rfl) (fun κ ω A ad => ?_)
  change GG mu_X1_eatFor κ ω A (QR κ ω A ad (none) (w_X1_eatFor res.1 c_board_askers res.2.1 c_eatsAt res.2.2 u_whole u_board_places u_board_age)) ad 0 0 0 (w_X1_eatFor c_time c_board_askers c_eaten c_eatsAt c_rest u_whole u_board_places u_board_age) [some (.ref 0), some (.long a1), none, none, none] []
  refine G_iconst 0 dX1_eatFor_0 (by decide) ?_
  refine G_istore_n dX1_eatFor_1 rfl (ltb rfl) ?_
  change GG _ _ _ _ _ _ _ _ _ _ [some (.ref 0), some (.long a1), none, some (.int 0), none] _
  exact g_X1_eatFor_2 N hf
set_option maxRecDepth 20000 in
theorem dX1_refine_0 : decode cX1_refine 0 = .ok (.aload_n 0, 1) := by decide +kernel
set_option maxRecDepth 20000 in
theorem dX1_refine_1 : decode cX1_refine 1 = .ok (.dup, 1) := by decide +kernel
set_option maxRecDepth 20000 in
theorem dX1_refine_2 : decode cX1_refine 2 = .ok (.getfield 29, 3) := by decide +kernel
set_option maxRecDepth 20000 in
theorem dX1_refine_5 : decode cX1_refine 5 = .ok (.iload_n 1, 1) := by decide +kernel
set_option maxRecDepth 20000 in
theorem dX1_refine_6 : decode cX1_refine 6 = .ok (.i2l, 1) := by decide +kernel
set_option maxRecDepth 20000 in
theorem dX1_refine_7 : decode cX1_refine 7 = .ok (.lmul, 1) := by decide +kernel
set_option maxRecDepth 20000 in
theorem dX1_refine_8 : decode cX1_refine 8 = .ok (.putfield 29, 3) := by decide +kernel
set_option maxRecDepth 20000 in
theorem dX1_refine_11 : decode cX1_refine 11 = .ok (.aload_n 0, 1) := by decide +kernel
set_option maxRecDepth 20000 in
theorem dX1_refine_12 : decode cX1_refine 12 = .ok (.dup, 1) := by decide +kernel
set_option maxRecDepth 20000 in
theorem dX1_refine_13 : decode cX1_refine 13 = .ok (.getfield 33, 3) := by decide +kernel
set_option maxRecDepth 20000 in
theorem dX1_refine_16 : decode cX1_refine 16 = .ok (.iload_n 1, 1) := by decide +kernel
set_option maxRecDepth 20000 in
theorem dX1_refine_17 : decode cX1_refine 17 = .ok (.i2l, 1) := by decide +kernel
set_option maxRecDepth 20000 in
theorem dX1_refine_18 : decode cX1_refine 18 = .ok (.lmul, 1) := by decide +kernel
set_option maxRecDepth 20000 in
theorem dX1_refine_19 : decode cX1_refine 19 = .ok (.putfield 33, 3) := by decide +kernel
set_option maxRecDepth 20000 in
theorem dX1_refine_22 : decode cX1_refine 22 = .ok (.iconst 0, 1) := by decide +kernel
set_option maxRecDepth 20000 in
theorem dX1_refine_23 : decode cX1_refine 23 = .ok (.istore_n 2, 1) := by decide +kernel
set_option maxRecDepth 20000 in
theorem dX1_refine_24 : decode cX1_refine 24 = .ok (.iload_n 2, 1) := by decide +kernel
set_option maxRecDepth 20000 in
theorem dX1_refine_25 : decode cX1_refine 25 = .ok (.bipush 48, 2) := by decide +kernel
set_option maxRecDepth 20000 in
theorem dX1_refine_27 : decode cX1_refine 27 = .ok (.if_icmp .ge 20, 3) := by decide +kernel
set_option maxRecDepth 20000 in
theorem dX1_refine_30 : decode cX1_refine 30 = .ok (.aload_n 0, 1) := by decide +kernel
set_option maxRecDepth 20000 in
theorem dX1_refine_31 : decode cX1_refine 31 = .ok (.getfield 15, 3) := by decide +kernel
set_option maxRecDepth 20000 in
theorem dX1_refine_34 : decode cX1_refine 34 = .ok (.iload_n 2, 1) := by decide +kernel
set_option maxRecDepth 20000 in
theorem dX1_refine_35 : decode cX1_refine 35 = .ok (.dup2, 1) := by decide +kernel
set_option maxRecDepth 20000 in
theorem dX1_refine_36 : decode cX1_refine 36 = .ok (.laload, 1) := by decide +kernel
set_option maxRecDepth 20000 in
theorem dX1_refine_37 : decode cX1_refine 37 = .ok (.iload_n 1, 1) := by decide +kernel
set_option maxRecDepth 20000 in
theorem dX1_refine_38 : decode cX1_refine 38 = .ok (.i2l, 1) := by decide +kernel
set_option maxRecDepth 20000 in
theorem dX1_refine_39 : decode cX1_refine 39 = .ok (.lmul, 1) := by decide +kernel
set_option maxRecDepth 20000 in
theorem dX1_refine_40 : decode cX1_refine 40 = .ok (.lastore, 1) := by decide +kernel
set_option maxRecDepth 20000 in
theorem dX1_refine_41 : decode cX1_refine 41 = .ok (.iinc 2 1, 3) := by decide +kernel
set_option maxRecDepth 20000 in
theorem dX1_refine_44 : decode cX1_refine 44 = .ok (.goto (-20), 3) := by decide +kernel
set_option maxRecDepth 20000 in
theorem dX1_refine_47 : decode cX1_refine 47 = .ok (.iconst 0, 1) := by decide +kernel
set_option maxRecDepth 20000 in
theorem dX1_refine_48 : decode cX1_refine 48 = .ok (.istore_n 2, 1) := by decide +kernel
set_option maxRecDepth 20000 in
theorem dX1_refine_49 : decode cX1_refine 49 = .ok (.iload_n 2, 1) := by decide +kernel
set_option maxRecDepth 20000 in
theorem dX1_refine_50 : decode cX1_refine 50 = .ok (.bipush 6, 2) := by decide +kernel
set_option maxRecDepth 20000 in
theorem dX1_refine_52 : decode cX1_refine 52 = .ok (.if_icmp .ge 20, 3) := by decide +kernel
set_option maxRecDepth 20000 in
theorem dX1_refine_55 : decode cX1_refine 55 = .ok (.aload_n 0, 1) := by decide +kernel
set_option maxRecDepth 20000 in
theorem dX1_refine_56 : decode cX1_refine 56 = .ok (.getfield 19, 3) := by decide +kernel
set_option maxRecDepth 20000 in
theorem dX1_refine_59 : decode cX1_refine 59 = .ok (.iload_n 2, 1) := by decide +kernel
set_option maxRecDepth 20000 in
theorem dX1_refine_60 : decode cX1_refine 60 = .ok (.dup2, 1) := by decide +kernel
set_option maxRecDepth 20000 in
theorem dX1_refine_61 : decode cX1_refine 61 = .ok (.laload, 1) := by decide +kernel
set_option maxRecDepth 20000 in
theorem dX1_refine_62 : decode cX1_refine 62 = .ok (.iload_n 1, 1) := by decide +kernel
set_option maxRecDepth 20000 in
theorem dX1_refine_63 : decode cX1_refine 63 = .ok (.i2l, 1) := by decide +kernel
set_option maxRecDepth 20000 in
theorem dX1_refine_64 : decode cX1_refine 64 = .ok (.lmul, 1) := by decide +kernel
set_option maxRecDepth 20000 in
theorem dX1_refine_65 : decode cX1_refine 65 = .ok (.lastore, 1) := by decide +kernel
set_option maxRecDepth 20000 in
theorem dX1_refine_66 : decode cX1_refine 66 = .ok (.iinc 2 1, 3) := by decide +kernel
set_option maxRecDepth 20000 in
theorem dX1_refine_69 : decode cX1_refine 69 = .ok (.goto (-20), 3) := by decide +kernel
set_option maxRecDepth 20000 in
theorem dX1_refine_72 : decode cX1_refine 72 = .ok (.return_, 1) := by decide +kernel
def f_X1_refine_49 (N : Nat) : Nat → Int64 → Int64 → (Nat → Int64) → (Nat → Int64) → Int32 → Int32 → Option (Int64 × Int64 × (Nat → Int64) × (Nat → Int64))
  | 0, _, _, _, _, _, _ => none
  | n + 1, c_whole, c_time, c_eaten, c_rest, v1, v2 =>
    (if 6 ≤ v2 then
      some (c_whole, c_time, c_eaten, c_rest)
    else
      (rdL 6 c_rest v2).bind fun t2 =>
      (wrL 6 c_rest v2 (t2 * v1.toInt64)).bind fun t3 =>
      f_X1_refine_49 N n c_whole c_time c_eaten t3 v1 (v2 + 1))
set_option maxHeartbeats 4000000 in
set_option maxRecDepth 100000 in
theorem g_X1_refine_49 {κ : KC} {ω : KW} {A : Nat → Prop} {ad : Nat → Nat}  {N : Nat}   {res : Int64 × Int64 × (Nat → Int64) × (Nat → Int64)} : ∀ (n : Nat) {c_whole : Int64} {c_time : Int64} {c_eaten : Nat → Int64} {c_rest : Nat → Int64} {v1 : Int32} {v2 : Int32}, f_X1_refine_49 N n c_whole c_time c_eaten c_rest v1 v2 = some res → GG mu_X1_refine κ ω A (QR κ ω A ad (none) (w_X1_refine res.1 res.2.1 res.2.2.1 res.2.2.2)) ad 0 0 49 (w_X1_refine c_whole c_time c_eaten c_rest) [some (.ref 0), some (.int v1), some (.int v2)] [] := by
  intro n
  induction n with
  | zero => intro c_whole c_time c_eaten c_rest v1 v2 hf; exact ob_0 hf
  | succ n ih =>
    intro c_whole c_time c_eaten c_rest v1 v2 hf
    refine G_iload_n dX1_refine_49 rfl rfl ?_
    refine G_bipush 6 dX1_refine_50 (by decide) ?_
    refine G_icmp_ge 72 dX1_refine_52 (by decide) (fun h1 => ?_) (fun h1 => ?_)
    · replace hf := ob_t h1 hf
      obtain rfl := os hf
      exact G_return dX1_refine_72 rfl
    · replace hf := ob_f h1 hf
      refine G_aload_n dX1_refine_55 rfl rfl ?_
      refine G_get (v := .ref 2) F_X1_19 dX1_refine_56 rfl rfl ?_
      refine G_iload_n dX1_refine_59 rfl rfl ?_
      refine G_dup2 dX1_refine_60 rfl rfl ?_
      obtain ⟨t2, ht2, hf⟩ := ob hf
      refine G_lald dX1_refine_61 rfl ht2 ?_
      refine G_iload_n dX1_refine_62 rfl rfl ?_
      refine G_i2l dX1_refine_63 ?_
      refine G_lmul dX1_refine_64 ?_
      obtain ⟨t3, ht3, hf⟩ := ob hf
      refine G_last (w2 := (w_X1_refine c_whole c_time c_eaten t3)) dX1_refine_65 rfl ht3 rfl ?_
      refine G_iinc 1 dX1_refine_66 (by decide) rfl (ltb rfl) ?_
      change GG _ _ _ _ _ _ _ _ _ _ [some (.ref 0), some (.int v1), some (.int (v2 + 1))] _
      refine G_goto 49 dX1_refine_69 (by decide) ?_
      exact ih hf
def f_X1_refine_24 (N : Nat) : Nat → Int64 → Int64 → (Nat → Int64) → (Nat → Int64) → Int32 → Int32 → Option (Int64 × Int64 × (Nat → Int64) × (Nat → Int64))
  | 0, _, _, _, _, _, _ => none
  | n + 1, c_whole, c_time, c_eaten, c_rest, v1, v2 =>
    (if 48 ≤ v2 then
      f_X1_refine_49 N N c_whole c_time c_eaten c_rest v1 0
    else
      (rdL 48 c_eaten v2).bind fun t2 =>
      (wrL 48 c_eaten v2 (t2 * v1.toInt64)).bind fun t3 =>
      f_X1_refine_24 N n c_whole c_time t3 c_rest v1 (v2 + 1))
set_option maxHeartbeats 4000000 in
set_option maxRecDepth 100000 in
theorem g_X1_refine_24 {κ : KC} {ω : KW} {A : Nat → Prop} {ad : Nat → Nat}  {N : Nat}   {res : Int64 × Int64 × (Nat → Int64) × (Nat → Int64)} : ∀ (n : Nat) {c_whole : Int64} {c_time : Int64} {c_eaten : Nat → Int64} {c_rest : Nat → Int64} {v1 : Int32} {v2 : Int32}, f_X1_refine_24 N n c_whole c_time c_eaten c_rest v1 v2 = some res → GG mu_X1_refine κ ω A (QR κ ω A ad (none) (w_X1_refine res.1 res.2.1 res.2.2.1 res.2.2.2)) ad 0 0 24 (w_X1_refine c_whole c_time c_eaten c_rest) [some (.ref 0), some (.int v1), some (.int v2)] [] := by
  intro n
  induction n with
  | zero => intro c_whole c_time c_eaten c_rest v1 v2 hf; exact ob_0 hf
  | succ n ih =>
    intro c_whole c_time c_eaten c_rest v1 v2 hf
    refine G_iload_n dX1_refine_24 rfl rfl ?_
    refine G_bipush 48 dX1_refine_25 (by decide) ?_
    refine G_icmp_ge 47 dX1_refine_27 (by decide) (fun h1 => ?_) (fun h1 => ?_)
    · replace hf := ob_t h1 hf
      refine G_iconst 0 dX1_refine_47 (by decide) ?_
      refine G_istore_n dX1_refine_48 rfl (ltb rfl) ?_
      change GG _ _ _ _ _ _ _ _ _ _ [some (.ref 0), some (.int v1), some (.int 0)] _
      exact g_X1_refine_49 N hf
    · replace hf := ob_f h1 hf
      refine G_aload_n dX1_refine_30 rfl rfl ?_
      refine G_get (v := .ref 1) F_X1_15 dX1_refine_31 rfl rfl ?_
      refine G_iload_n dX1_refine_34 rfl rfl ?_
      refine G_dup2 dX1_refine_35 rfl rfl ?_
      obtain ⟨t2, ht2, hf⟩ := ob hf
      refine G_lald dX1_refine_36 rfl ht2 ?_
      refine G_iload_n dX1_refine_37 rfl rfl ?_
      refine G_i2l dX1_refine_38 ?_
      refine G_lmul dX1_refine_39 ?_
      obtain ⟨t3, ht3, hf⟩ := ob hf
      refine G_last (w2 := (w_X1_refine c_whole c_time t3 c_rest)) dX1_refine_40 rfl ht3 rfl ?_
      refine G_iinc 1 dX1_refine_41 (by decide) rfl (ltb rfl) ?_
      change GG _ _ _ _ _ _ _ _ _ _ [some (.ref 0), some (.int v1), some (.int (v2 + 1))] _
      refine G_goto 24 dX1_refine_44 (by decide) ?_
      exact ih hf
def f_X1_refine (N : Nat) (c_whole : Int64) (c_time : Int64) (c_eaten : Nat → Int64) (c_rest : Nat → Int64) (a1 : Int32) : Option (Int64 × Int64 × (Nat → Int64) × (Nat → Int64)) :=
  f_X1_refine_24 N N (c_whole * a1.toInt64) (c_time * a1.toInt64) c_eaten c_rest a1 0
set_option maxHeartbeats 4000000 in
set_option maxRecDepth 100000 in
theorem c_X1_refine {N : Nat}  {c_whole : Int64} {c_time : Int64} {c_eaten : Nat → Int64} {c_rest : Nat → Int64}  {a1 : Int32} {res : Int64 × Int64 × (Nat → Int64) × (Nat → Int64)} (hf : f_X1_refine N c_whole c_time c_eaten c_rest a1 = some res) : Con mu_X1_refine [.ref 0, .int a1] (w_X1_refine c_whole c_time c_eaten c_rest) (none) (w_X1_refine res.1 res.2.1 res.2.2.1 res.2.2.2) := by
  refine Con.mk (show plainName RX1 = true by decide +kernel) (leb rfl) (fun κ ω A ad => ?_)
  change GG mu_X1_refine κ ω A (QR κ ω A ad (none) (w_X1_refine res.1 res.2.1 res.2.2.1 res.2.2.2)) ad 0 0 0 (w_X1_refine c_whole c_time c_eaten c_rest) [some (.ref 0), some (.int a1), none] []
  refine G_aload_n dX1_refine_0 rfl rfl ?_
  refine G_dup dX1_refine_1 rfl ?_
  refine G_get (v := .long c_whole) F_X1_29 dX1_refine_2 rfl rfl ?_
  refine G_iload_n dX1_refine_5 rfl rfl ?_
  refine G_i2l dX1_refine_6 ?_
  refine G_lmul dX1_refine_7 ?_
  refine G_put (w2 := (w_X1_refine (c_whole * a1.toInt64) c_time c_eaten c_rest)) F_X1_29 dX1_refine_8 rfl rfl rfl (ltb rfl) rfl ?_
  refine G_aload_n dX1_refine_11 rfl rfl ?_
  refine G_dup dX1_refine_12 rfl ?_
  refine G_get (v := .long c_time) F_X1_33 dX1_refine_13 rfl rfl ?_
  refine G_iload_n dX1_refine_16 rfl rfl ?_
  refine G_i2l dX1_refine_17 ?_
  refine G_lmul dX1_refine_18 ?_
  refine G_put (w2 := (w_X1_refine (c_whole * a1.toInt64) (c_time * a1.toInt64) c_eaten c_rest)) F_X1_33 dX1_refine_19 rfl rfl rfl (ltb rfl) rfl ?_
  refine G_iconst 0 dX1_refine_22 (by decide) ?_
  refine G_istore_n dX1_refine_23 rfl (ltb rfl) ?_
  change GG _ _ _ _ _ _ _ _ _ _ [some (.ref 0), some (.int a1), some (.int 0)] _
  exact g_X1_refine_24 N hf
set_option maxRecDepth 20000 in
theorem dX1_run_0 : decode cX1_run 0 = .ok (.aload_n 0, 1) := by decide +kernel
set_option maxRecDepth 20000 in
theorem dX1_run_1 : decode cX1_run 1 = .ok (.lconst 1, 1) := by decide +kernel
set_option maxRecDepth 20000 in
theorem dX1_run_2 : decode cX1_run 2 = .ok (.putfield 29, 3) := by decide +kernel
set_option maxRecDepth 20000 in
theorem dX1_run_5 : decode cX1_run 5 = .ok (.aload_n 0, 1) := by decide +kernel
set_option maxRecDepth 20000 in
theorem dX1_run_6 : decode cX1_run 6 = .ok (.lconst 1, 1) := by decide +kernel
set_option maxRecDepth 20000 in
theorem dX1_run_7 : decode cX1_run 7 = .ok (.putfield 33, 3) := by decide +kernel
set_option maxRecDepth 20000 in
theorem dX1_run_10 : decode cX1_run 10 = .ok (.iconst 0, 1) := by decide +kernel
set_option maxRecDepth 20000 in
theorem dX1_run_11 : decode cX1_run 11 = .ok (.istore_n 1, 1) := by decide +kernel
set_option maxRecDepth 20000 in
theorem dX1_run_12 : decode cX1_run 12 = .ok (.iload_n 1, 1) := by decide +kernel
set_option maxRecDepth 20000 in
theorem dX1_run_13 : decode cX1_run 13 = .ok (.bipush 48, 2) := by decide +kernel
set_option maxRecDepth 20000 in
theorem dX1_run_15 : decode cX1_run 15 = .ok (.if_icmp .ge 16, 3) := by decide +kernel
set_option maxRecDepth 20000 in
theorem dX1_run_18 : decode cX1_run 18 = .ok (.aload_n 0, 1) := by decide +kernel
set_option maxRecDepth 20000 in
theorem dX1_run_19 : decode cX1_run 19 = .ok (.getfield 15, 3) := by decide +kernel
set_option maxRecDepth 20000 in
theorem dX1_run_22 : decode cX1_run 22 = .ok (.iload_n 1, 1) := by decide +kernel
set_option maxRecDepth 20000 in
theorem dX1_run_23 : decode cX1_run 23 = .ok (.lconst 0, 1) := by decide +kernel
set_option maxRecDepth 20000 in
theorem dX1_run_24 : decode cX1_run 24 = .ok (.lastore, 1) := by decide +kernel
set_option maxRecDepth 20000 in
theorem dX1_run_25 : decode cX1_run 25 = .ok (.iinc 1 1, 3) := by decide +kernel
set_option maxRecDepth 20000 in
theorem dX1_run_28 : decode cX1_run 28 = .ok (.goto (-16), 3) := by decide +kernel
set_option maxRecDepth 20000 in
theorem dX1_run_31 : decode cX1_run 31 = .ok (.iconst 0, 1) := by decide +kernel
set_option maxRecDepth 20000 in
theorem dX1_run_32 : decode cX1_run 32 = .ok (.istore_n 1, 1) := by decide +kernel
set_option maxRecDepth 20000 in
theorem dX1_run_33 : decode cX1_run 33 = .ok (.iload_n 1, 1) := by decide +kernel
set_option maxRecDepth 20000 in
theorem dX1_run_34 : decode cX1_run 34 = .ok (.aload_n 0, 1) := by decide +kernel
set_option maxRecDepth 20000 in
theorem dX1_run_35 : decode cX1_run 35 = .ok (.getfield 9, 3) := by decide +kernel
set_option maxRecDepth 20000 in
theorem dX1_run_38 : decode cX1_run 38 = .ok (.getfield 36, 3) := by decide +kernel
set_option maxRecDepth 20000 in
theorem dX1_run_41 : decode cX1_run 41 = .ok (.if_icmp .ge 25, 3) := by decide +kernel
set_option maxRecDepth 20000 in
theorem dX1_run_44 : decode cX1_run 44 = .ok (.aload_n 0, 1) := by decide +kernel
set_option maxRecDepth 20000 in
theorem dX1_run_45 : decode cX1_run 45 = .ok (.getfield 19, 3) := by decide +kernel
set_option maxRecDepth 20000 in
theorem dX1_run_48 : decode cX1_run 48 = .ok (.iload_n 1, 1) := by decide +kernel
set_option maxRecDepth 20000 in
theorem dX1_run_49 : decode cX1_run 49 = .ok (.aload_n 0, 1) := by decide +kernel
set_option maxRecDepth 20000 in
theorem dX1_run_50 : decode cX1_run 50 = .ok (.getfield 9, 3) := by decide +kernel
set_option maxRecDepth 20000 in
theorem dX1_run_53 : decode cX1_run 53 = .ok (.getfield 42, 3) := by decide +kernel
set_option maxRecDepth 20000 in
theorem dX1_run_56 : decode cX1_run 56 = .ok (.iload_n 1, 1) := by decide +kernel
set_option maxRecDepth 20000 in
theorem dX1_run_57 : decode cX1_run 57 = .ok (.iaload, 1) := by decide +kernel
set_option maxRecDepth 20000 in
theorem dX1_run_58 : decode cX1_run 58 = .ok (.i2l, 1) := by decide +kernel
set_option maxRecDepth 20000 in
theorem dX1_run_59 : decode cX1_run 59 = .ok (.lastore, 1) := by decide +kernel
set_option maxRecDepth 20000 in
theorem dX1_run_60 : decode cX1_run 60 = .ok (.iinc 1 1, 3) := by decide +kernel
set_option maxRecDepth 20000 in
theorem dX1_run_63 : decode cX1_run 63 = .ok (.goto (-30), 3) := by decide +kernel
set_option maxRecDepth 20000 in
theorem dX1_run_66 : decode cX1_run 66 = .ok (.iconst 0, 1) := by decide +kernel
set_option maxRecDepth 20000 in
theorem dX1_run_67 : decode cX1_run 67 = .ok (.istore_n 1, 1) := by decide +kernel
set_option maxRecDepth 20000 in
theorem dX1_run_68 : decode cX1_run 68 = .ok (.iload_n 1, 1) := by decide +kernel
set_option maxRecDepth 20000 in
theorem dX1_run_69 : decode cX1_run 69 = .ok (.bipush 6, 2) := by decide +kernel
set_option maxRecDepth 20000 in
theorem dX1_run_71 : decode cX1_run 71 = .ok (.if_icmp .gt 65, 3) := by decide +kernel
set_option maxRecDepth 20000 in
theorem dX1_run_74 : decode cX1_run 74 = .ok (.aload_n 0, 1) := by decide +kernel
set_option maxRecDepth 20000 in
theorem dX1_run_75 : decode cX1_run 75 = .ok (.getfield 33, 3) := by decide +kernel
set_option maxRecDepth 20000 in
theorem dX1_run_78 : decode cX1_run 78 = .ok (.lconst 0, 1) := by decide +kernel
set_option maxRecDepth 20000 in
theorem dX1_run_79 : decode cX1_run 79 = .ok (.lcmp, 1) := by decide +kernel
set_option maxRecDepth 20000 in
theorem dX1_run_80 : decode cX1_run 80 = .ok (.ifCond .le 56, 3) := by decide +kernel
set_option maxRecDepth 20000 in
theorem dX1_run_83 : decode cX1_run 83 = .ok (.aload_n 0, 1) := by decide +kernel
set_option maxRecDepth 20000 in
theorem dX1_run_84 : decode cX1_run 84 = .ok (.invokevirtual 45, 3) := by decide +kernel
set_option maxRecDepth 20000 in
theorem dX1_run_87 : decode cX1_run 87 = .ok (.aload_n 0, 1) := by decide +kernel
set_option maxRecDepth 20000 in
theorem dX1_run_88 : decode cX1_run 88 = .ok (.invokevirtual 48, 3) := by decide +kernel
set_option maxRecDepth 20000 in
theorem dX1_run_91 : decode cX1_run 91 = .ok (.istore_n 2, 1) := by decide +kernel
set_option maxRecDepth 20000 in
theorem dX1_run_92 : decode cX1_run 92 = .ok (.iload_n 2, 1) := by decide +kernel
set_option maxRecDepth 20000 in
theorem dX1_run_93 : decode cX1_run 93 = .ok (.iconst (-1), 1) := by decide +kernel
set_option maxRecDepth 20000 in
theorem dX1_run_94 : decode cX1_run 94 = .ok (.if_icmp .ne 14, 3) := by decide +kernel
set_option maxRecDepth 20000 in
theorem dX1_run_97 : decode cX1_run 97 = .ok (.aload_n 0, 1) := by decide +kernel
set_option maxRecDepth 20000 in
theorem dX1_run_98 : decode cX1_run 98 = .ok (.aload_n 0, 1) := by decide +kernel
set_option maxRecDepth 20000 in
theorem dX1_run_99 : decode cX1_run 99 = .ok (.getfield 33, 3) := by decide +kernel
set_option maxRecDepth 20000 in
theorem dX1_run_102 : decode cX1_run 102 = .ok (.invokevirtual 52, 3) := by decide +kernel
set_option maxRecDepth 20000 in
theorem dX1_run_105 : decode cX1_run 105 = .ok (.goto 25, 3) := by decide +kernel
set_option maxRecDepth 20000 in
theorem dX1_run_108 : decode cX1_run 108 = .ok (.aload_n 0, 1) := by decide +kernel
set_option maxRecDepth 20000 in
theorem dX1_run_109 : decode cX1_run 109 = .ok (.getfield 19, 3) := by decide +kernel
set_option maxRecDepth 20000 in
theorem dX1_run_112 : decode cX1_run 112 = .ok (.iload_n 2, 1) := by decide +kernel
set_option maxRecDepth 20000 in
theorem dX1_run_113 : decode cX1_run 113 = .ok (.laload, 1) := by decide +kernel
set_option maxRecDepth 20000 in
theorem dX1_run_114 : decode cX1_run 114 = .ok (.lstore_n 3, 1) := by decide +kernel
set_option maxRecDepth 20000 in
theorem dX1_run_115 : decode cX1_run 115 = .ok (.aload_n 0, 1) := by decide +kernel
set_option maxRecDepth 20000 in
theorem dX1_run_116 : decode cX1_run 116 = .ok (.aload_n 0, 1) := by decide +kernel
set_option maxRecDepth 20000 in
theorem dX1_run_117 : decode cX1_run 117 = .ok (.getfield 26, 3) := by decide +kernel
set_option maxRecDepth 20000 in
theorem dX1_run_120 : decode cX1_run 120 = .ok (.iload_n 2, 1) := by decide +kernel
set_option maxRecDepth 20000 in
theorem dX1_run_121 : decode cX1_run 121 = .ok (.iaload, 1) := by decide +kernel
set_option maxRecDepth 20000 in
theorem dX1_run_122 : decode cX1_run 122 = .ok (.invokevirtual 56, 3) := by decide +kernel
set_option maxRecDepth 20000 in
theorem dX1_run_125 : decode cX1_run 125 = .ok (.aload_n 0, 1) := by decide +kernel
set_option maxRecDepth 20000 in
theorem dX1_run_126 : decode cX1_run 126 = .ok (.lload_n 3, 1) := by decide +kernel
set_option maxRecDepth 20000 in
theorem dX1_run_127 : decode cX1_run 127 = .ok (.invokevirtual 52, 3) := by decide +kernel
set_option maxRecDepth 20000 in
theorem dX1_run_130 : decode cX1_run 130 = .ok (.iinc 1 1, 3) := by decide +kernel
set_option maxRecDepth 20000 in
theorem dX1_run_133 : decode cX1_run 133 = .ok (.goto (-65), 3) := by decide +kernel
set_option maxRecDepth 20000 in
theorem dX1_run_136 : decode cX1_run 136 = .ok (.return_, 1) := by decide +kernel
def f_X1_run_68 (N : Nat) (c_board_askers : Int32) (c_board_places : Int32) (c_board_likes : Nat → Int32) (c_board_seats : Nat → Int32) : Nat → Int64 → Int64 → (Nat → Int64) → (Nat → Int32) → (Nat → Int32) → (Nat → Int64) → Int32 → Option (Int64 × Int64 × (Nat → Int64) × (Nat → Int32) × (Nat → Int32) × (Nat → Int64))
  | 0, _, _, _, _, _, _, _ => none
  | n + 1, c_whole, c_time, c_eaten, c_eaters, c_eatsAt, c_rest, v1 =>
    (if 6 < v1 then
      some (c_whole, c_time, c_eaten, c_eaters, c_eatsAt, c_rest)
    else
      (if c_time ≤ 0 then
        some (c_whole, c_time, c_eaten, c_eaters, c_eatsAt, c_rest)
      else
        (f_X1_seatAll N c_board_askers c_rest c_board_likes c_eaters c_eatsAt).bind fun (o3, o4) =>
        (f_X1_soonestUp N c_time c_board_places o3 c_rest).bind fun r6 =>
        (if r6 = (-1 : Int32) then
          (f_X1_eatFor N c_board_askers o4 c_time c_eaten c_rest c_time).bind fun (o20, o21, o22) =>
          f_X1_run_68 N c_board_askers c_board_places c_board_likes c_board_seats n c_whole o20 o21 o3 o4 o22 (v1 + 1)
        else
          (rdL 6 c_rest r6).bind fun t9 =>
          (rdI 6 o3 r6).bind fun t10 =>
          (f_X1_refine N c_whole c_time c_eaten c_rest t10).bind fun (o11, o12, o13, o14) =>
          (f_X1_eatFor N c_board_askers o4 o12 o13 o14 t9).bind fun (o16, o17, o18) =>
          f_X1_run_68 N c_board_askers c_board_places c_board_likes c_board_seats n o11 o16 o17 o3 o4 o18 (v1 + 1))))
set_option maxHeartbeats 4000000 in
set_option maxRecDepth 100000 in
theorem g_X1_run_68 {κ : KC} {ω : KW} {A : Nat → Prop} {ad : Nat → Nat} {u_board_age : Int32} {N : Nat} {c_board_askers : Int32} {c_board_places : Int32} {c_board_likes : Nat → Int32} {c_board_seats : Nat → Int32}  {res : Int64 × Int64 × (Nat → Int64) × (Nat → Int32) × (Nat → Int32) × (Nat → Int64)} : ∀ (n : Nat) {c_whole : Int64} {c_time : Int64} {c_eaten : Nat → Int64} {c_eaters : Nat → Int32} {c_eatsAt : Nat → Int32} {c_rest : Nat → Int64} {v1 : Int32}, f_X1_run_68 N c_board_askers c_board_places c_board_likes c_board_seats n c_whole c_time c_eaten c_eaters c_eatsAt c_rest v1 = some res → GG mu_X1_run κ ω A (QR κ ω A ad (none) (w_X1_run res.1 res.2.1 c_board_askers c_board_places res.2.2.1 res.2.2.2.1 res.2.2.2.2.1 res.2.2.2.2.2 c_board_likes c_board_seats u_board_age)) ad 0 0 68 (w_X1_run c_whole c_time c_board_askers c_board_places c_eaten c_eaters c_eatsAt c_rest c_board_likes c_board_seats u_board_age) [some (.ref 0), some (.int v1), none, none, none] [] := by
  intro n
  induction n with
  | zero => intro c_whole c_time c_eaten c_eaters c_eatsAt c_rest v1 hf; exact ob_0 hf
  | succ n ih =>
    intro c_whole c_time c_eaten c_eaters c_eatsAt c_rest v1 hf
    refine G_iload_n dX1_run_68 rfl rfl ?_
    refine G_bipush 6 dX1_run_69 (by decide) ?_
    refine G_icmp_gt 136 dX1_run_71 (by decide) (fun h1 => ?_) (fun h1 => ?_)
    · replace hf := ob_t h1 hf
      obtain rfl := os hf
      exact G_return dX1_run_136 rfl
    · replace hf := ob_f h1 hf
      refine G_aload_n dX1_run_74 rfl rfl ?_
      refine G_get (v := .long c_time) F_X1_33 dX1_run_75 rfl rfl ?_
      refine G_lconst 0 dX1_run_78 (by decide) ?_
      refine G_lcmp_le 136 dX1_run_79 dX1_run_80 (by decide) (fun h2 => ?_) (fun h2 => ?_)
      · replace hf := ob_t h2 hf
        obtain rfl := os hf
        exact G_return dX1_run_136 rfl
      · replace hf := ob_f h2 hf
        refine G_aload_n dX1_run_83 rfl rfl ?_
        obtain ⟨⟨o3, o4⟩, hc5, hf⟩ := ob hf
        refine G_callV (μ2 := mu_X1_seatAll) (As := []) (w2 := (w_X1_run c_whole c_time c_board_askers c_board_places c_eaten o3 o4 c_rest c_board_likes c_board_seats u_board_age)) (wc := (w_X1_seatAll c_board_askers c_eaters c_eatsAt c_rest c_board_likes c_whole c_time c_board_places u_board_age)) (wc2 := (w_X1_seatAll c_board_askers o3 o4 c_rest c_board_likes c_whole c_time c_board_places u_board_age)) (rest := []) (rv := []) [0, 1, 3, 4, 5, 6] [2, 7, 1000, 1001] [2, 7] [2, 3, 0, 4, 5, 6, 7, 1] (c_X1_seatAll hc5) cw_X1_seatAll m_X1_45 dX1_run_84 rfl ⟨leb rfl, leb rfl⟩ ⟨rfl, rfl⟩ rfl ⟨_, rfl, rfl⟩ (Fit.mk rfl rfl rfl) rfl (leb rfl) (ROsub.nil rfl rfl) rfl ?_
        change GG _ _ _ _ _ _ _ _ _ (w_X1_run c_whole c_time c_board_askers c_board_places c_eaten o3 o4 c_rest c_board_likes c_board_seats u_board_age) [some (.ref 0), some (.int v1), none, none, none] []
        refine G_aload_n dX1_run_87 rfl rfl ?_
        obtain ⟨r6, hc7, hf⟩ := ob hf
        refine G_callV (μ2 := mu_X1_soonestUp) (As := []) (w2 := (w_X1_run c_whole c_time c_board_askers c_board_places c_eaten o3 o4 c_rest c_board_likes c_board_seats u_board_age)) (wc := (w_X1_soonestUp c_time c_board_places o3 c_rest c_whole c_board_askers u_board_age)) (wc2 := (w_X1_soonestUp c_time c_board_places o3 c_rest c_whole c_board_askers u_board_age)) (rest := []) (rv := [.int r6]) [0, 1, 3, 5] [2, 4, 7, 1000, 6, 1001] [2, 4, 6, 7] [4, 5, 0, 6, 1, 7, 2, 3] (c_X1_soonestUp hc7) cw_X1_soonestUp m_X1_48 dX1_run_88 rfl ⟨leb rfl, leb rfl⟩ ⟨rfl, rfl⟩ rfl ⟨_, rfl, rfl⟩ (Fit.mk rfl rfl rfl) rfl (leb rfl) (ROsub.nil rfl rfl) rfl ?_
        change GG _ _ _ _ _ _ _ _ _ (w_X1_run c_whole c_time c_board_askers c_board_places c_eaten o3 o4 c_rest c_board_likes c_board_seats u_board_age) [some (.ref 0), some (.int v1), none, none, none] [.int r6]
        refine G_istore_n dX1_run_91 rfl (ltb rfl) ?_
        change GG _ _ _ _ _ _ _ _ _ _ [some (.ref 0), some (.int v1), some (.int r6), none, none] _
        refine G_iload_n dX1_run_92 rfl rfl ?_
        refine G_iconst (-1 : Int32) dX1_run_93 (by decide) ?_
        refine G_icmp_ne 108 dX1_run_94 (by decide) (fun h8 => ?_) (fun h8 => ?_)
        · replace hf := ob_f h8 hf
          refine G_aload_n dX1_run_108 rfl rfl ?_
          refine G_get (v := .ref 5) F_X1_19 dX1_run_109 rfl rfl ?_
          refine G_iload_n dX1_run_112 rfl rfl ?_
          obtain ⟨t9, ht9, hf⟩ := ob hf
          refine G_lald dX1_run_113 rfl ht9 ?_
          refine G_lstore_n dX1_run_114 rfl (ltb rfl) ?_
          change GG _ _ _ _ _ _ _ _ _ _ [some (.ref 0), some (.int v1), some (.int r6), some (.long t9), none] _
          refine G_aload_n dX1_run_115 rfl rfl ?_
          refine G_aload_n dX1_run_116 rfl rfl ?_
          refine G_get (v := .ref 3) F_X1_26 dX1_run_117 rfl rfl ?_
          refine G_iload_n dX1_run_120 rfl rfl ?_
          obtain ⟨t10, ht10, hf⟩ := ob hf
          refine G_iald dX1_run_121 rfl ht10 ?_
          obtain ⟨⟨o11, o12, o13, o14⟩, hc15, hf⟩ := ob hf
          refine G_callV (μ2 := mu_X1_refine) (As := [.int t10]) (w2 := (w_X1_run o11 o12 c_board_askers c_board_places o13 o3 o4 o14 c_board_likes c_board_seats u_board_age)) (wc := (w_X1_refine c_whole c_time c_eaten c_rest)) (wc2 := (w_X1_refine o11 o12 o13 o14)) (rest := []) (rv := []) [0, 2, 5] [1, 4, 3] [1, 3, 4, 6, 7] [5, 0, 6, 1, 2, 7, 3, 4] (c_X1_refine hc15) cw_X1_refine m_X1_56 dX1_run_122 rfl ⟨leb rfl, leb rfl⟩ ⟨rfl, rfl⟩ rfl ⟨_, rfl, rfl⟩ (Fit.mk rfl rfl rfl) rfl (leb rfl) (ROsub.nil rfl rfl) rfl ?_
          change GG _ _ _ _ _ _ _ _ _ (w_X1_run o11 o12 c_board_askers c_board_places o13 o3 o4 o14 c_board_likes c_board_seats u_board_age) [some (.ref 0), some (.int v1), some (.int r6), some (.long t9), none] []
          refine G_aload_n dX1_run_125 rfl rfl ?_
          refine G_lload_n dX1_run_126 rfl rfl ?_
          obtain ⟨⟨o16, o17, o18⟩, hc19, hf⟩ := ob hf
          refine G_callV (μ2 := mu_X1_eatFor) (As := [.long t9]) (w2 := (w_X1_run o11 o16 c_board_askers c_board_places o17 o3 o4 o18 c_board_likes c_board_seats u_board_age)) (wc := (w_X1_eatFor o12 c_board_askers o13 o4 o14 o11 c_board_places u_board_age)) (wc2 := (w_X1_eatFor o16 c_board_askers o17 o4 o18 o11 c_board_places u_board_age)) (rest := []) (rv := []) [0, 1, 2, 4, 5] [3, 7, 1000, 6, 1001] [3, 6, 7] [3, 4, 5, 0, 6, 7, 1, 2] (c_X1_eatFor hc19) cw_X1_eatFor m_X1_52 dX1_run_127 rfl ⟨leb rfl, leb rfl⟩ ⟨rfl, rfl⟩ rfl ⟨_, rfl, rfl⟩ (Fit.mk rfl rfl rfl) rfl (leb rfl) (ROsub.nil rfl rfl) rfl ?_
          change GG _ _ _ _ _ _ _ _ _ (w_X1_run o11 o16 c_board_askers c_board_places o17 o3 o4 o18 c_board_likes c_board_seats u_board_age) [some (.ref 0), some (.int v1), some (.int r6), some (.long t9), none] []
          refine G_iinc 1 dX1_run_130 (by decide) rfl (ltb rfl) ?_
          change GG _ _ _ _ _ _ _ _ _ _ [some (.ref 0), some (.int (v1 + 1)), some (.int r6), some (.long t9), none] _
          refine G_goto 68 dX1_run_133 (by decide) ?_
          refine GG.sb (lv2 := [some (.ref 0), some (.int (v1 + 1)), none, none, none]) ?_ (lvS_v rfl (lvS_v rfl (lvS_n (lvS_n (lvS_n (lvS_e))))))
          exact ih hf
        · replace hf := ob_t h8 hf
          refine G_aload_n dX1_run_97 rfl rfl ?_
          refine G_aload_n dX1_run_98 rfl rfl ?_
          refine G_get (v := .long c_time) F_X1_33 dX1_run_99 rfl rfl ?_
          obtain ⟨⟨o20, o21, o22⟩, hc23, hf⟩ := ob hf
          refine G_callV (μ2 := mu_X1_eatFor) (As := [.long c_time]) (w2 := (w_X1_run c_whole o20 c_board_askers c_board_places o21 o3 o4 o22 c_board_likes c_board_seats u_board_age)) (wc := (w_X1_eatFor c_time c_board_askers c_eaten o4 c_rest c_whole c_board_places u_board_age)) (wc2 := (w_X1_eatFor o20 c_board_askers o21 o4 o22 c_whole c_board_places u_board_age)) (rest := []) (rv := []) [0, 1, 2, 4, 5] [3, 7, 1000, 6, 1001] [3, 6, 7] [3, 4, 5, 0, 6, 7, 1, 2] (c_X1_eatFor hc23) cw_X1_eatFor m_X1_52 dX1_run_102 rfl ⟨leb rfl, leb rfl⟩ ⟨rfl, rfl⟩ rfl ⟨_, rfl, rfl⟩ (Fit.mk rfl rfl rfl) rfl (leb rfl) (ROsub.nil rfl rfl) rfl ?_
          change GG _ _ _ _ _ _ _ _ _ (w_X1_run c_whole o20 c_board_askers c_board_places o21 o3 o4 o22 c_board_likes c_board_seats u_board_age) [some (.ref 0), some (.int v1), some (.int r6), none, none] []
          refine G_goto 130 dX1_run_105 (by decide) ?_
          refine G_iinc 1 dX1_run_130 (by decide) rfl (ltb rfl) ?_
          change GG _ _ _ _ _ _ _ _ _ _ [some (.ref 0), some (.int (v1 + 1)), some (.int r6), none, none] _
          refine G_goto 68 dX1_run_133 (by decide) ?_
          refine GG.sb (lv2 := [some (.ref 0), some (.int (v1 + 1)), none, none, none]) ?_ (lvS_v rfl (lvS_v rfl (lvS_n (lvS_n (lvS_n (lvS_e))))))
          exact ih hf
def f_X1_run_33 (N : Nat) (c_board_askers : Int32) (c_board_places : Int32) (c_board_likes : Nat → Int32) (c_board_seats : Nat → Int32) : Nat → Int64 → Int64 → (Nat → Int64) → (Nat → Int32) → (Nat → Int32) → (Nat → Int64) → Int32 → Option (Int64 × Int64 × (Nat → Int64) × (Nat → Int32) × (Nat → Int32) × (Nat → Int64))
  | 0, _, _, _, _, _, _, _ => none
  | n + 1, c_whole, c_time, c_eaten, c_eaters, c_eatsAt, c_rest, v1 =>
    (if c_board_places ≤ v1 then
      f_X1_run_68 N c_board_askers c_board_places c_board_likes c_board_seats N c_whole c_time c_eaten c_eaters c_eatsAt c_rest 0
    else
      (rdI 6 c_board_seats v1).bind fun t2 =>
      (wrL 6 c_rest v1 t2.toInt64).bind fun t3 =>
      f_X1_run_33 N c_board_askers c_board_places c_board_likes c_board_seats n c_whole c_time c_eaten c_eaters c_eatsAt t3 (v1 + 1))
set_option maxHeartbeats 4000000 in
set_option maxRecDepth 100000 in
theorem g_X1_run_33 {κ : KC} {ω : KW} {A : Nat → Prop} {ad : Nat → Nat} {u_board_age : Int32} {N : Nat} {c_board_askers : Int32} {c_board_places : Int32} {c_board_likes : Nat → Int32} {c_board_seats : Nat → Int32}  {res : Int64 × Int64 × (Nat → Int64) × (Nat → Int32) × (Nat → Int32) × (Nat → Int64)} : ∀ (n : Nat) {c_whole : Int64} {c_time : Int64} {c_eaten : Nat → Int64} {c_eaters : Nat → Int32} {c_eatsAt : Nat → Int32} {c_rest : Nat → Int64} {v1 : Int32}, f_X1_run_33 N c_board_askers c_board_places c_board_likes c_board_seats n c_whole c_time c_eaten c_eaters c_eatsAt c_rest v1 = some res → GG mu_X1_run κ ω A (QR κ ω A ad (none) (w_X1_run res.1 res.2.1 c_board_askers c_board_places res.2.2.1 res.2.2.2.1 res.2.2.2.2.1 res.2.2.2.2.2 c_board_likes c_board_seats u_board_age)) ad 0 0 33 (w_X1_run c_whole c_time c_board_askers c_board_places c_eaten c_eaters c_eatsAt c_rest c_board_likes c_board_seats u_board_age) [some (.ref 0), some (.int v1), none, none, none] [] := by
  intro n
  induction n with
  | zero => intro c_whole c_time c_eaten c_eaters c_eatsAt c_rest v1 hf; exact ob_0 hf
  | succ n ih =>
    intro c_whole c_time c_eaten c_eaters c_eatsAt c_rest v1 hf
    refine G_iload_n dX1_run_33 rfl rfl ?_
    refine G_aload_n dX1_run_34 rfl rfl ?_
    refine G_get (v := .ref 1) F_X1_9 dX1_run_35 rfl rfl ?_
    refine G_get (v := .int c_board_places) F_X1_36 dX1_run_38 rfl rfl ?_
    refine G_icmp_ge 66 dX1_run_41 (by decide) (fun h1 => ?_) (fun h1 => ?_)
    · replace hf := ob_t h1 hf
      refine G_iconst 0 dX1_run_66 (by decide) ?_
      refine G_istore_n dX1_run_67 rfl (ltb rfl) ?_
      change GG _ _ _ _ _ _ _ _ _ _ [some (.ref 0), some (.int 0), none, none, none] _
      exact g_X1_run_68 N hf
    · replace hf := ob_f h1 hf
      refine G_aload_n dX1_run_44 rfl rfl ?_
      refine G_get (v := .ref 5) F_X1_19 dX1_run_45 rfl rfl ?_
      refine G_iload_n dX1_run_48 rfl rfl ?_
      refine G_aload_n dX1_run_49 rfl rfl ?_
      refine G_get (v := .ref 1) F_X1_9 dX1_run_50 rfl rfl ?_
      refine G_get (v := .ref 7) F_X1_42 dX1_run_53 rfl rfl ?_
      refine G_iload_n dX1_run_56 rfl rfl ?_
      obtain ⟨t2, ht2, hf⟩ := ob hf
      refine G_iald dX1_run_57 rfl ht2 ?_
      refine G_i2l dX1_run_58 ?_
      obtain ⟨t3, ht3, hf⟩ := ob hf
      refine G_last (w2 := (w_X1_run c_whole c_time c_board_askers c_board_places c_eaten c_eaters c_eatsAt t3 c_board_likes c_board_seats u_board_age)) dX1_run_59 rfl ht3 rfl ?_
      refine G_iinc 1 dX1_run_60 (by decide) rfl (ltb rfl) ?_
      change GG _ _ _ _ _ _ _ _ _ _ [some (.ref 0), some (.int (v1 + 1)), none, none, none] _
      refine G_goto 33 dX1_run_63 (by decide) ?_
      exact ih hf
def f_X1_run_12 (N : Nat) (c_board_askers : Int32) (c_board_places : Int32) (c_board_likes : Nat → Int32) (c_board_seats : Nat → Int32) : Nat → Int64 → Int64 → (Nat → Int64) → (Nat → Int32) → (Nat → Int32) → (Nat → Int64) → Int32 → Option (Int64 × Int64 × (Nat → Int64) × (Nat → Int32) × (Nat → Int32) × (Nat → Int64))
  | 0, _, _, _, _, _, _, _ => none
  | n + 1, c_whole, c_time, c_eaten, c_eaters, c_eatsAt, c_rest, v1 =>
    (if 48 ≤ v1 then
      f_X1_run_33 N c_board_askers c_board_places c_board_likes c_board_seats N c_whole c_time c_eaten c_eaters c_eatsAt c_rest 0
    else
      (wrL 48 c_eaten v1 0).bind fun t2 =>
      f_X1_run_12 N c_board_askers c_board_places c_board_likes c_board_seats n c_whole c_time t2 c_eaters c_eatsAt c_rest (v1 + 1))
set_option maxHeartbeats 4000000 in
set_option maxRecDepth 100000 in
theorem g_X1_run_12 {κ : KC} {ω : KW} {A : Nat → Prop} {ad : Nat → Nat} {u_board_age : Int32} {N : Nat} {c_board_askers : Int32} {c_board_places : Int32} {c_board_likes : Nat → Int32} {c_board_seats : Nat → Int32}  {res : Int64 × Int64 × (Nat → Int64) × (Nat → Int32) × (Nat → Int32) × (Nat → Int64)} : ∀ (n : Nat) {c_whole : Int64} {c_time : Int64} {c_eaten : Nat → Int64} {c_eaters : Nat → Int32} {c_eatsAt : Nat → Int32} {c_rest : Nat → Int64} {v1 : Int32}, f_X1_run_12 N c_board_askers c_board_places c_board_likes c_board_seats n c_whole c_time c_eaten c_eaters c_eatsAt c_rest v1 = some res → GG mu_X1_run κ ω A (QR κ ω A ad (none) (w_X1_run res.1 res.2.1 c_board_askers c_board_places res.2.2.1 res.2.2.2.1 res.2.2.2.2.1 res.2.2.2.2.2 c_board_likes c_board_seats u_board_age)) ad 0 0 12 (w_X1_run c_whole c_time c_board_askers c_board_places c_eaten c_eaters c_eatsAt c_rest c_board_likes c_board_seats u_board_age) [some (.ref 0), some (.int v1), none, none, none] [] := by
  intro n
  induction n with
  | zero => intro c_whole c_time c_eaten c_eaters c_eatsAt c_rest v1 hf; exact ob_0 hf
  | succ n ih =>
    intro c_whole c_time c_eaten c_eaters c_eatsAt c_rest v1 hf
    refine G_iload_n dX1_run_12 rfl rfl ?_
    refine G_bipush 48 dX1_run_13 (by decide) ?_
    refine G_icmp_ge 31 dX1_run_15 (by decide) (fun h1 => ?_) (fun h1 => ?_)
    · replace hf := ob_t h1 hf
      refine G_iconst 0 dX1_run_31 (by decide) ?_
      refine G_istore_n dX1_run_32 rfl (ltb rfl) ?_
      change GG _ _ _ _ _ _ _ _ _ _ [some (.ref 0), some (.int 0), none, none, none] _
      exact g_X1_run_33 N hf
    · replace hf := ob_f h1 hf
      refine G_aload_n dX1_run_18 rfl rfl ?_
      refine G_get (v := .ref 2) F_X1_15 dX1_run_19 rfl rfl ?_
      refine G_iload_n dX1_run_22 rfl rfl ?_
      refine G_lconst 0 dX1_run_23 (by decide) ?_
      obtain ⟨t2, ht2, hf⟩ := ob hf
      refine G_last (w2 := (w_X1_run c_whole c_time c_board_askers c_board_places t2 c_eaters c_eatsAt c_rest c_board_likes c_board_seats u_board_age)) dX1_run_24 rfl ht2 rfl ?_
      refine G_iinc 1 dX1_run_25 (by decide) rfl (ltb rfl) ?_
      change GG _ _ _ _ _ _ _ _ _ _ [some (.ref 0), some (.int (v1 + 1)), none, none, none] _
      refine G_goto 12 dX1_run_28 (by decide) ?_
      exact ih hf
def f_X1_run (N : Nat) (c_board_askers : Int32) (c_board_places : Int32) (c_board_likes : Nat → Int32) (c_board_seats : Nat → Int32) (c_whole : Int64) (c_time : Int64) (c_eaten : Nat → Int64) (c_eaters : Nat → Int32) (c_eatsAt : Nat → Int32) (c_rest : Nat → Int64)  : Option (Int64 × Int64 × (Nat → Int64) × (Nat → Int32) × (Nat → Int32) × (Nat → Int64)) :=
  f_X1_run_12 N c_board_askers c_board_places c_board_likes c_board_seats N 1 1 c_eaten c_eaters c_eatsAt c_rest 0
set_option maxHeartbeats 4000000 in
set_option maxRecDepth 100000 in
theorem c_X1_run {N : Nat} {c_board_askers : Int32} {c_board_places : Int32} {c_board_likes : Nat → Int32} {c_board_seats : Nat → Int32} {c_whole : Int64} {c_time : Int64} {c_eaten : Nat → Int64} {c_eaters : Nat → Int32} {c_eatsAt : Nat → Int32} {c_rest : Nat → Int64} {u_board_age : Int32}  {res : Int64 × Int64 × (Nat → Int64) × (Nat → Int32) × (Nat → Int32) × (Nat → Int64)} (hf : f_X1_run N c_board_askers c_board_places c_board_likes c_board_seats c_whole c_time c_eaten c_eaters c_eatsAt c_rest = some res) : Con mu_X1_run [.ref 0] (w_X1_run c_whole c_time c_board_askers c_board_places c_eaten c_eaters c_eatsAt c_rest c_board_likes c_board_seats u_board_age) (none) (w_X1_run res.1 res.2.1 c_board_askers c_board_places res.2.2.1 res.2.2.2.1 res.2.2.2.2.1 res.2.2.2.2.2 c_board_likes c_board_seats u_board_age) := by
  refine Con.mk (show plainName RX1 = true by decide +kernel) (leb rfl) (fun κ ω A ad => ?_)
  change GG mu_X1_run κ ω A (QR κ ω A ad (none) (w_X1_run res.1 res.2.1 c_board_askers c_board_places res.2.2.1 res.2.2.2.1 res.2.2.2.2.1 res.2.2.2.2.2 c_board_likes c_board_seats u_board_age)) ad 0 0 0 (w_X1_run c_whole c_time c_board_askers c_board_places c_eaten c_eaters c_eatsAt c_rest c_board_likes c_board_seats u_board_age) [some (.ref 0), none, none, none, none] []
  refine G_aload_n dX1_run_0 rfl rfl ?_
  refine G_lconst 1 dX1_run_1 (by decide) ?_
  refine G_put (w2 := (w_X1_run 1 c_time c_board_askers c_board_places c_eaten c_eaters c_eatsAt c_rest c_board_likes c_board_seats u_board_age)) F_X1_29 dX1_run_2 rfl rfl rfl (ltb rfl) rfl ?_
  refine G_aload_n dX1_run_5 rfl rfl ?_
  refine G_lconst 1 dX1_run_6 (by decide) ?_
  refine G_put (w2 := (w_X1_run 1 1 c_board_askers c_board_places c_eaten c_eaters c_eatsAt c_rest c_board_likes c_board_seats u_board_age)) F_X1_33 dX1_run_7 rfl rfl rfl (ltb rfl) rfl ?_
  refine G_iconst 0 dX1_run_10 (by decide) ?_
  refine G_istore_n dX1_run_11 rfl (ltb rfl) ?_
  change GG _ _ _ _ _ _ _ _ _ _ [some (.ref 0), some (.int 0), none, none, none] _
  exact g_X1_run_12 N hf
set_option maxRecDepth 20000 in
theorem dX1_eatenBy_0 : decode cX1_eatenBy 0 = .ok (.aload_n 0, 1) := by decide +kernel
set_option maxRecDepth 20000 in
theorem dX1_eatenBy_1 : decode cX1_eatenBy 1 = .ok (.getfield 15, 3) := by decide +kernel
set_option maxRecDepth 20000 in
theorem dX1_eatenBy_4 : decode cX1_eatenBy 4 = .ok (.iload_n 1, 1) := by decide +kernel
set_option maxRecDepth 20000 in
theorem dX1_eatenBy_5 : decode cX1_eatenBy 5 = .ok (.bipush 6, 2) := by decide +kernel
set_option maxRecDepth 20000 in
theorem dX1_eatenBy_7 : decode cX1_eatenBy 7 = .ok (.imul, 1) := by decide +kernel
set_option maxRecDepth 20000 in
theorem dX1_eatenBy_8 : decode cX1_eatenBy 8 = .ok (.iload_n 2, 1) := by decide +kernel
set_option maxRecDepth 20000 in
theorem dX1_eatenBy_9 : decode cX1_eatenBy 9 = .ok (.iadd, 1) := by decide +kernel
set_option maxRecDepth 20000 in
theorem dX1_eatenBy_10 : decode cX1_eatenBy 10 = .ok (.laload, 1) := by decide +kernel
set_option maxRecDepth 20000 in
theorem dX1_eatenBy_11 : decode cX1_eatenBy 11 = .ok (.lreturn, 1) := by decide +kernel
def f_X1_eatenBy (N : Nat) (c_eaten : Nat → Int64) (a1 : Int32) (a2 : Int32) : Option (Int64) :=
  (rdL 48 c_eaten ((a1 * 6) + a2)).bind fun t1 =>
  some t1
set_option maxHeartbeats 4000000 in
set_option maxRecDepth 100000 in
theorem c_X1_eatenBy {N : Nat} {c_eaten : Nat → Int64}  {u_whole : Int64} {u_time : Int64} {a1 : Int32} {a2 : Int32} {res : Int64} (hf : f_X1_eatenBy N c_eaten a1 a2 = some res) : Con mu_X1_eatenBy [.ref 0, .int a1, .int a2] (w_X1_eatenBy c_eaten u_whole u_time) (some (.long res)) (w_X1_eatenBy c_eaten u_whole u_time) := by
  refine Con.mk (show plainName RX1 = true by decide +kernel) (leb rfl) (fun κ ω A ad => ?_)
  change GG mu_X1_eatenBy κ ω A (QR κ ω A ad (some (.long res)) (w_X1_eatenBy c_eaten u_whole u_time)) ad 0 0 0 (w_X1_eatenBy c_eaten u_whole u_time) [some (.ref 0), some (.int a1), some (.int a2)] []
  refine G_aload_n dX1_eatenBy_0 rfl rfl ?_
  refine G_get (v := .ref 1) F_X1_15 dX1_eatenBy_1 rfl rfl ?_
  refine G_iload_n dX1_eatenBy_4 rfl rfl ?_
  refine G_bipush 6 dX1_eatenBy_5 (by decide) ?_
  refine G_imul dX1_eatenBy_7 ?_
  refine G_iload_n dX1_eatenBy_8 rfl rfl ?_
  refine G_iadd dX1_eatenBy_9 ?_
  obtain ⟨t1, ht1, hf⟩ := ob hf
  refine G_lald dX1_eatenBy_10 rfl ht1 ?_
  obtain rfl := os hf
  exact G_lreturn dX1_eatenBy_11 rfl
set_option maxRecDepth 20000 in
theorem dX1_eatenUpTo_0 : decode cX1_eatenUpTo 0 = .ok (.lconst 0, 1) := by decide +kernel
set_option maxRecDepth 20000 in
theorem dX1_eatenUpTo_1 : decode cX1_eatenUpTo 1 = .ok (.lstore 4, 2) := by decide +kernel
set_option maxRecDepth 20000 in
theorem dX1_eatenUpTo_3 : decode cX1_eatenUpTo 3 = .ok (.iconst 0, 1) := by decide +kernel
set_option maxRecDepth 20000 in
theorem dX1_eatenUpTo_4 : decode cX1_eatenUpTo 4 = .ok (.istore 6, 2) := by decide +kernel
set_option maxRecDepth 20000 in
theorem dX1_eatenUpTo_6 : decode cX1_eatenUpTo 6 = .ok (.iload 6, 2) := by decide +kernel
set_option maxRecDepth 20000 in
theorem dX1_eatenUpTo_8 : decode cX1_eatenUpTo 8 = .ok (.aload_n 0, 1) := by decide +kernel
set_option maxRecDepth 20000 in
theorem dX1_eatenUpTo_9 : decode cX1_eatenUpTo 9 = .ok (.getfield 9, 3) := by decide +kernel
set_option maxRecDepth 20000 in
theorem dX1_eatenUpTo_12 : decode cX1_eatenUpTo 12 = .ok (.getfield 36, 3) := by decide +kernel
set_option maxRecDepth 20000 in
theorem dX1_eatenUpTo_15 : decode cX1_eatenUpTo 15 = .ok (.if_icmp .ge 40, 3) := by decide +kernel
set_option maxRecDepth 20000 in
theorem dX1_eatenUpTo_18 : decode cX1_eatenUpTo 18 = .ok (.aload_n 0, 1) := by decide +kernel
set_option maxRecDepth 20000 in
theorem dX1_eatenUpTo_19 : decode cX1_eatenUpTo 19 = .ok (.getfield 9, 3) := by decide +kernel
set_option maxRecDepth 20000 in
theorem dX1_eatenUpTo_22 : decode cX1_eatenUpTo 22 = .ok (.iload_n 1, 1) := by decide +kernel
set_option maxRecDepth 20000 in
theorem dX1_eatenUpTo_23 : decode cX1_eatenUpTo 23 = .ok (.iload 6, 2) := by decide +kernel
set_option maxRecDepth 20000 in
theorem dX1_eatenUpTo_25 : decode cX1_eatenUpTo 25 = .ok (.invokevirtual 71, 3) := by decide +kernel
set_option maxRecDepth 20000 in
theorem dX1_eatenUpTo_28 : decode cX1_eatenUpTo 28 = .ok (.iload_n 2, 1) := by decide +kernel
set_option maxRecDepth 20000 in
theorem dX1_eatenUpTo_29 : decode cX1_eatenUpTo 29 = .ok (.if_icmp .gt 20, 3) := by decide +kernel
set_option maxRecDepth 20000 in
theorem dX1_eatenUpTo_32 : decode cX1_eatenUpTo 32 = .ok (.lload 4, 2) := by decide +kernel
set_option maxRecDepth 20000 in
theorem dX1_eatenUpTo_34 : decode cX1_eatenUpTo 34 = .ok (.aload_n 0, 1) := by decide +kernel
set_option maxRecDepth 20000 in
theorem dX1_eatenUpTo_35 : decode cX1_eatenUpTo 35 = .ok (.getfield 15, 3) := by decide +kernel
set_option maxRecDepth 20000 in
theorem dX1_eatenUpTo_38 : decode cX1_eatenUpTo 38 = .ok (.iload_n 3, 1) := by decide +kernel
set_option maxRecDepth 20000 in
theorem dX1_eatenUpTo_39 : decode cX1_eatenUpTo 39 = .ok (.bipush 6, 2) := by decide +kernel
set_option maxRecDepth 20000 in
theorem dX1_eatenUpTo_41 : decode cX1_eatenUpTo 41 = .ok (.imul, 1) := by decide +kernel
set_option maxRecDepth 20000 in
theorem dX1_eatenUpTo_42 : decode cX1_eatenUpTo 42 = .ok (.iload 6, 2) := by decide +kernel
set_option maxRecDepth 20000 in
theorem dX1_eatenUpTo_44 : decode cX1_eatenUpTo 44 = .ok (.iadd, 1) := by decide +kernel
set_option maxRecDepth 20000 in
theorem dX1_eatenUpTo_45 : decode cX1_eatenUpTo 45 = .ok (.laload, 1) := by decide +kernel
set_option maxRecDepth 20000 in
theorem dX1_eatenUpTo_46 : decode cX1_eatenUpTo 46 = .ok (.ladd, 1) := by decide +kernel
set_option maxRecDepth 20000 in
theorem dX1_eatenUpTo_47 : decode cX1_eatenUpTo 47 = .ok (.lstore 4, 2) := by decide +kernel
set_option maxRecDepth 20000 in
theorem dX1_eatenUpTo_49 : decode cX1_eatenUpTo 49 = .ok (.iinc 6 1, 3) := by decide +kernel
set_option maxRecDepth 20000 in
theorem dX1_eatenUpTo_52 : decode cX1_eatenUpTo 52 = .ok (.goto (-46), 3) := by decide +kernel
set_option maxRecDepth 20000 in
theorem dX1_eatenUpTo_55 : decode cX1_eatenUpTo 55 = .ok (.lload 4, 2) := by decide +kernel
set_option maxRecDepth 20000 in
theorem dX1_eatenUpTo_57 : decode cX1_eatenUpTo 57 = .ok (.lreturn, 1) := by decide +kernel
def f_X1_eatenUpTo_6 (N : Nat) (c_board_places : Int32) (c_eaten : Nat → Int64) (c_board_wishes : Nat → Int32) : Nat → Int32 → Int32 → Int32 → Int64 → Int32 → Option (Int64)
  | 0, _, _, _, _, _ => none
  | n + 1, v1, v2, v3, v4, v6 =>
    (if c_board_places ≤ v6 then
      some v4
    else
      (f_X0_worthOf N c_board_wishes v1 v6).bind fun r2 =>
      (if v2 < r2 then
        f_X1_eatenUpTo_6 N c_board_places c_eaten c_board_wishes n v1 v2 v3 v4 (v6 + 1)
      else
        (rdL 48 c_eaten ((v3 * 6) + v6)).bind fun t5 =>
        f_X1_eatenUpTo_6 N c_board_places c_eaten c_board_wishes n v1 v2 v3 (v4 + t5) (v6 + 1)))
set_option maxHeartbeats 4000000 in
set_option maxRecDepth 100000 in
theorem g_X1_eatenUpTo_6 {κ : KC} {ω : KW} {A : Nat → Prop} {ad : Nat → Nat} {u_whole : Int64} {u_time : Int64} {u_board_askers : Int32} {u_board_age : Int32} {N : Nat} {c_board_places : Int32} {c_eaten : Nat → Int64} {c_board_wishes : Nat → Int32}  {res : Int64} : ∀ (n : Nat) {v1 : Int32} {v2 : Int32} {v3 : Int32} {v4 : Int64} {v6 : Int32}, f_X1_eatenUpTo_6 N c_board_places c_eaten c_board_wishes n v1 v2 v3 v4 v6 = some res → GG mu_X1_eatenUpTo κ ω A (QR κ ω A ad (some (.long res)) (w_X1_eatenUpTo c_board_places c_eaten c_board_wishes u_whole u_time u_board_askers u_board_age)) ad 0 0 6 (w_X1_eatenUpTo c_board_places c_eaten c_board_wishes u_whole u_time u_board_askers u_board_age) [some (.ref 0), some (.int v1), some (.int v2), some (.int v3), some (.long v4), none, some (.int v6)] [] := by
  intro n
  induction n with
  | zero => intro v1 v2 v3 v4 v6 hf; exact ob_0 hf
  | succ n ih =>
    intro v1 v2 v3 v4 v6 hf
    refine G_iload dX1_eatenUpTo_6 rfl ?_
    refine G_aload_n dX1_eatenUpTo_8 rfl rfl ?_
    refine G_get (v := .ref 1) F_X1_9 dX1_eatenUpTo_9 rfl rfl ?_
    refine G_get (v := .int c_board_places) F_X1_36 dX1_eatenUpTo_12 rfl rfl ?_
    refine G_icmp_ge 55 dX1_eatenUpTo_15 (by decide) (fun h1 => ?_) (fun h1 => ?_)
    · replace hf := ob_t h1 hf
      refine G_lload dX1_eatenUpTo_55 rfl ?_
      obtain rfl := os hf
      exact G_lreturn dX1_eatenUpTo_57 rfl
    · replace hf := ob_f h1 hf
      refine G_aload_n dX1_eatenUpTo_18 rfl rfl ?_
      refine G_get (v := .ref 1) F_X1_9 dX1_eatenUpTo_19 rfl rfl ?_
      refine G_iload_n dX1_eatenUpTo_22 rfl rfl ?_
      refine G_iload dX1_eatenUpTo_23 rfl ?_
      obtain ⟨r2, hc3, hf⟩ := ob hf
      refine G_callV (μ2 := mu_X0_worthOf) (As := [.int v1, .int v6]) (w2 := (w_X1_eatenUpTo c_board_places c_eaten c_board_wishes u_whole u_time u_board_askers u_board_age)) (wc := (w_X0_worthOf c_board_wishes u_board_askers c_board_places u_board_age)) (wc2 := (w_X0_worthOf c_board_wishes u_board_askers c_board_places u_board_age)) (rest := []) (rv := [.int r2]) [1, 3] [1003, 1004, 1005] [0, 2] [0, 2, 1, 3] (c_X0_worthOf hc3) cw_X0_worthOf m_X1_71 dX1_eatenUpTo_25 rfl ⟨leb rfl, leb rfl⟩ ⟨rfl, rfl⟩ rfl ⟨_, rfl, rfl⟩ (Fit.mk rfl rfl rfl) rfl (leb rfl) (ROsub.nil rfl rfl) rfl ?_
      change GG _ _ _ _ _ _ _ _ _ (w_X1_eatenUpTo c_board_places c_eaten c_board_wishes u_whole u_time u_board_askers u_board_age) [some (.ref 0), some (.int v1), some (.int v2), some (.int v3), some (.long v4), none, some (.int v6)] [.int r2]
      refine G_iload_n dX1_eatenUpTo_28 rfl rfl ?_
      refine G_icmp_gt 49 dX1_eatenUpTo_29 (by decide) (fun h4 => ?_) (fun h4 => ?_)
      · replace hf := ob_t h4 hf
        refine G_iinc 1 dX1_eatenUpTo_49 (by decide) rfl (ltb rfl) ?_
        change GG _ _ _ _ _ _ _ _ _ _ [some (.ref 0), some (.int v1), some (.int v2), some (.int v3), some (.long v4), none, some (.int (v6 + 1))] _
        refine G_goto 6 dX1_eatenUpTo_52 (by decide) ?_
        exact ih hf
      · replace hf := ob_f h4 hf
        refine G_lload dX1_eatenUpTo_32 rfl ?_
        refine G_aload_n dX1_eatenUpTo_34 rfl rfl ?_
        refine G_get (v := .ref 2) F_X1_15 dX1_eatenUpTo_35 rfl rfl ?_
        refine G_iload_n dX1_eatenUpTo_38 rfl rfl ?_
        refine G_bipush 6 dX1_eatenUpTo_39 (by decide) ?_
        refine G_imul dX1_eatenUpTo_41 ?_
        refine G_iload dX1_eatenUpTo_42 rfl ?_
        refine G_iadd dX1_eatenUpTo_44 ?_
        obtain ⟨t5, ht5, hf⟩ := ob hf
        refine G_lald dX1_eatenUpTo_45 rfl ht5 ?_
        refine G_ladd dX1_eatenUpTo_46 ?_
        refine G_lstore dX1_eatenUpTo_47 (ltb rfl) ?_
        change GG _ _ _ _ _ _ _ _ _ _ [some (.ref 0), some (.int v1), some (.int v2), some (.int v3), some (.long (v4 + t5)), none, some (.int v6)] _
        refine G_iinc 1 dX1_eatenUpTo_49 (by decide) rfl (ltb rfl) ?_
        change GG _ _ _ _ _ _ _ _ _ _ [some (.ref 0), some (.int v1), some (.int v2), some (.int v3), some (.long (v4 + t5)), none, some (.int (v6 + 1))] _
        refine G_goto 6 dX1_eatenUpTo_52 (by decide) ?_
        exact ih hf
def f_X1_eatenUpTo (N : Nat) (c_board_places : Int32) (c_eaten : Nat → Int64) (c_board_wishes : Nat → Int32) (a1 : Int32) (a2 : Int32) (a3 : Int32) : Option (Int64) :=
  f_X1_eatenUpTo_6 N c_board_places c_eaten c_board_wishes N a1 a2 a3 0 0
set_option maxHeartbeats 4000000 in
set_option maxRecDepth 100000 in
theorem c_X1_eatenUpTo {N : Nat} {c_board_places : Int32} {c_eaten : Nat → Int64} {c_board_wishes : Nat → Int32}  {u_whole : Int64} {u_time : Int64} {u_board_askers : Int32} {u_board_age : Int32} {a1 : Int32} {a2 : Int32} {a3 : Int32} {res : Int64} (hf : f_X1_eatenUpTo N c_board_places c_eaten c_board_wishes a1 a2 a3 = some res) : Con mu_X1_eatenUpTo [.ref 0, .int a1, .int a2, .int a3] (w_X1_eatenUpTo c_board_places c_eaten c_board_wishes u_whole u_time u_board_askers u_board_age) (some (.long res)) (w_X1_eatenUpTo c_board_places c_eaten c_board_wishes u_whole u_time u_board_askers u_board_age) := by
  refine Con.mk (show plainName RX1 = true by decide +kernel) (leb rfl) (fun κ ω A ad => ?_)
  change GG mu_X1_eatenUpTo κ ω A (QR κ ω A ad (some (.long res)) (w_X1_eatenUpTo c_board_places c_eaten c_board_wishes u_whole u_time u_board_askers u_board_age)) ad 0 0 0 (w_X1_eatenUpTo c_board_places c_eaten c_board_wishes u_whole u_time u_board_askers u_board_age) [some (.ref 0), some (.int a1), some (.int a2), some (.int a3), none, none, none] []
  refine G_lconst 0 dX1_eatenUpTo_0 (by decide) ?_
  refine G_lstore dX1_eatenUpTo_1 (ltb rfl) ?_
  change GG _ _ _ _ _ _ _ _ _ _ [some (.ref 0), some (.int a1), some (.int a2), some (.int a3), some (.long 0), none, none] _
  refine G_iconst 0 dX1_eatenUpTo_3 (by decide) ?_
  refine G_istore dX1_eatenUpTo_4 (ltb rfl) ?_
  change GG _ _ _ _ _ _ _ _ _ _ [some (.ref 0), some (.int a1), some (.int a2), some (.int a3), some (.long 0), none, some (.int 0)] _
  exact g_X1_eatenUpTo_6 N hf
