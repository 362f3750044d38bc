/-! printed by wip/gen: the law -/
set_option maxHeartbeats 40000000 in
set_option maxRecDepth 100000 in
theorem g_L_law_18 {κ : KC} {ω : KW} {A : Nat → Prop} {Q : State → Prop} {ad δ : Nat → Nat} {nm : String} {N : Nat} {L : Nat} {c_a0 : Nat → Int32}  (hend : ∀ (w : List mE) (lv : List (Option Value)), GG (mu_L nm L c_a0) κ ω A Q (ext ad 0 δ) 83 1568902 1063 w lv [.int 1]) : ∀ (n : Nat) {c_a1_above : Int64} {c_a1_below : Int64} {c_a1_board_askers : Int32} {c_a1_board_places : Int32} {c_a1_board_age : Int32} {c_a1_board_seats : Nat → Int32} {c_a1_board_wishes : Nat → Int32} {c_a1_board_likes : Nat → Int32} {c_a1_board_told : Nat → Int32} {c_a1_all_slots : Nat → Int32} {c_a1_all_askers : Int32} {c_a1_all_places : Int32} {c_a1_all_seatBits : Int32} {c_a1_all_entries : Int32} {c_a1_all_gains : Nat → Int32} {c_a1_all_solvedGains : Nat → Int32} {c_a1_all_left : Nat → Int32} {c_a1_all_best : Nat → Int32} {c_a1_all_ways : Nat → Int32} {c_a1_all_next : Nat → Int32} {c_a1_all_firstOf : Nat → Int32} {c_a1_all_clipAll : Nat → Int32} {c_a1_all_clipToOne : Nat → Int32} {c_a1_all_clipToTwo : Nat → Int32} {c_a1_steady_askers : Int32} {c_a1_steady_places : Int32} {c_a1_steady_seatBits : Int32} {c_a1_steady_entries : Int32} {c_a1_steady_gains : Nat → Int32} {c_a1_steady_solvedGains : Nat → Int32} {c_a1_steady_left : Nat → Int32} {c_a1_steady_best : Nat → Int32} {c_a1_steady_ways : Nat → Int32} {c_a1_steady_next : Nat → Int32} {c_a1_steady_firstOf : Nat → Int32} {c_a1_steady_clipAll : Nat → Int32} {c_a1_steady_clipToOne : Nat → Int32} {c_a1_steady_clipToTwo : Nat → Int32} {c_a1_aimed_askers : Int32} {c_a1_aimed_places : Int32} {c_a1_aimed_seatBits : Int32} {c_a1_aimed_entries : Int32} {c_a1_aimed_gains : Nat → Int32} {c_a1_aimed_solvedGains : Nat → Int32} {c_a1_aimed_left : Nat → Int32} {c_a1_aimed_best : Nat → Int32} {c_a1_aimed_ways : Nat → Int32} {c_a1_aimed_next : Nat → Int32} {c_a1_aimed_firstOf : Nat → Int32} {c_a1_aimed_clipAll : Nat → Int32} {c_a1_aimed_clipToOne : Nat → Int32} {c_a1_aimed_clipToTwo : Nat → Int32} {c_a1_steadiness_most : Int32} {c_a1_steadiness_tight : Int32} {c_a1_steadiness_firsts : Nat → Int32} {c_a1_trade_gets : Nat → Int32} {c_a1_trade_servedIn : Nat → Int32} {c_a1_trade_holds : Nat → Int32} {c_a1_trade_pointsAt : Nat → Int32} {c_a1_trade_holderOf : Nat → Int32} {c_a1_ring_length : Int32} {c_a1_ring_members : Nat → Int32} {c_a1_ring_wants : Nat → Int32} {c_a1_lots_age : Int32} {c_a1_lots_runs : Int64} {c_a1_lots_wanting : Int32} {c_a1_lots_wanted : Int32} {c_a1_lots_answers : Nat → Int32} {c_a1_lots_memoKeys : Nat → Int64} {c_a1_lots_memos : Nat → Int32} {c_a1_eating_whole : Int64} {c_a1_eating_time : Int64} {c_a1_eating_eaten : Nat → Int64} {c_a1_eating_rest : Nat → Int64} {c_a1_eating_eatsAt : Nat → Int32} {c_a1_eating_eaters : Nat → Int32} {c_a1_row : Nat → Int32} {c_a2_askers : Int32} {c_a2_places : Int32} {c_a2_above : Int64} {c_a2_below : Int64} {c_a2_full : Int32} {c_a2_firsts : Int32} {c_a2_freed : Int32} {c_a2_whole : Int64} {c_a2_seats : Nat → Int32} {c_a2_wish : Nat → Int32} {c_a2_told : Nat → Int32} {c_a2_weight : Nat → Int32} {c_a2_count : Nat → Int64} {c_a2_found : Nat → Int32} {c_a2_cost : Nat → Int64} {c_a2_least : Nat → Int64} {c_a2_prefer : Nat → Int32} {c_a2_next : Nat → Int32} {c_a2_firstWorth : Nat → Int32} {c_a2_secondWorth : Nat → Int32} {c_a2_stand : Nat → Int64} {c_a2_served : Nat → Int32} {c_a2_points : Nat → Int32} {c_a2_can : Nat → Int32} {c_a2_ring : Nat → Int32} {c_a2_ways : Nat → Int32} {c_a2_leftOf : Nat → Int64} {c_a2_ate : Nat → Int64} {c_a2_eats : Nat → Int32} {v3 : Int32}, f_L_law_18 N L c_a0 n c_a1_above c_a1_below c_a1_board_askers c_a1_board_places c_a1_board_age c_a1_board_seats c_a1_board_wishes c_a1_board_likes c_a1_board_told c_a1_all_slots c_a1_all_askers c_a1_all_places c_a1_all_seatBits c_a1_all_entries c_a1_all_gains c_a1_all_solvedGains c_a1_all_left c_a1_all_best c_a1_all_ways c_a1_all_next c_a1_all_firstOf c_a1_all_clipAll c_a1_all_clipToOne c_a1_all_clipToTwo c_a1_steady_askers c_a1_steady_places c_a1_steady_seatBits c_a1_steady_entries c_a1_steady_gains c_a1_steady_solvedGains c_a1_steady_left c_a1_steady_best c_a1_steady_ways c_a1_steady_next c_a1_steady_firstOf c_a1_steady_clipAll c_a1_steady_clipToOne c_a1_steady_clipToTwo c_a1_aimed_askers c_a1_aimed_places c_a1_aimed_seatBits c_a1_aimed_entries c_a1_aimed_gains c_a1_aimed_solvedGains c_a1_aimed_left c_a1_aimed_best c_a1_aimed_ways c_a1_aimed_next c_a1_aimed_firstOf c_a1_aimed_clipAll c_a1_aimed_clipToOne c_a1_aimed_clipToTwo c_a1_steadiness_most c_a1_steadiness_tight c_a1_steadiness_firsts c_a1_trade_gets c_a1_trade_servedIn c_a1_trade_holds c_a1_trade_pointsAt c_a1_trade_holderOf c_a1_ring_length c_a1_ring_members c_a1_ring_wants c_a1_lots_age c_a1_lots_runs c_a1_lots_wanting c_a1_lots_wanted c_a1_lots_answers c_a1_lots_memoKeys c_a1_lots_memos c_a1_eating_whole c_a1_eating_time c_a1_eating_eaten c_a1_eating_rest c_a1_eating_eatsAt c_a1_eating_eaters c_a1_row c_a2_askers c_a2_places c_a2_above c_a2_below c_a2_full c_a2_firsts c_a2_freed c_a2_whole c_a2_seats c_a2_wish c_a2_told c_a2_weight c_a2_count c_a2_found c_a2_cost c_a2_least c_a2_prefer c_a2_next c_a2_firstWorth c_a2_secondWorth c_a2_stand c_a2_served c_a2_points c_a2_can c_a2_ring c_a2_ways c_a2_leftOf c_a2_ate c_a2_eats v3 = some 1 → GG (mu_L nm L c_a0) κ ω A Q (ext ad 0 δ) 83 1568902 18 (w_L_law c_a1_above c_a1_below c_a1_board_askers c_a1_board_places c_a1_board_age c_a1_board_seats c_a1_board_wishes c_a1_board_likes c_a1_board_told c_a1_all_slots c_a1_all_askers c_a1_all_places c_a1_all_seatBits c_a1_all_entries c_a1_all_gains c_a1_all_solvedGains c_a1_all_left c_a1_all_best c_a1_all_ways c_a1_all_next c_a1_all_firstOf c_a1_all_clipAll c_a1_all_clipToOne c_a1_all_clipToTwo c_a1_steady_askers c_a1_steady_places c_a1_steady_seatBits c_a1_steady_entries c_a1_steady_gains c_a1_steady_solvedGains c_a1_steady_left c_a1_steady_best c_a1_steady_ways c_a1_steady_next c_a1_steady_firstOf c_a1_steady_clipAll c_a1_steady_clipToOne c_a1_steady_clipToTwo c_a1_aimed_askers c_a1_aimed_places c_a1_aimed_seatBits c_a1_aimed_entries c_a1_aimed_gains c_a1_aimed_solvedGains c_a1_aimed_left c_a1_aimed_best c_a1_aimed_ways c_a1_aimed_next c_a1_aimed_firstOf c_a1_aimed_clipAll c_a1_aimed_clipToOne c_a1_aimed_clipToTwo c_a1_steadiness_most c_a1_steadiness_tight c_a1_steadiness_firsts c_a1_trade_gets c_a1_trade_servedIn c_a1_trade_holds c_a1_trade_pointsAt c_a1_trade_holderOf c_a1_ring_length c_a1_ring_members c_a1_ring_wants c_a1_lots_age c_a1_lots_runs c_a1_lots_wanting c_a1_lots_wanted c_a1_lots_answers c_a1_lots_memoKeys c_a1_lots_memos c_a1_eating_whole c_a1_eating_time c_a1_eating_eaten c_a1_eating_rest c_a1_eating_eatsAt c_a1_eating_eaters c_a1_row c_a2_askers c_a2_places c_a2_above c_a2_below c_a2_full c_a2_firsts c_a2_freed c_a2_whole c_a2_seats c_a2_wish c_a2_told c_a2_weight c_a2_count c_a2_found c_a2_cost c_a2_least c_a2_prefer c_a2_next c_a2_firstWorth c_a2_secondWorth c_a2_stand c_a2_served c_a2_points c_a2_can c_a2_ring c_a2_ways c_a2_leftOf c_a2_ate c_a2_eats) [some (.ref 1000), some (.ref 0), some (.ref 61), some (.int v3)] [] := by
  intro n
  induction n with
  | zero => intro c_a1_above c_a1_below c_a1_board_askers c_a1_board_places c_a1_board_age c_a1_board_seats c_a1_board_wishes c_a1_board_likes c_a1_board_told c_a1_all_slots c_a1_all_askers c_a1_all_places c_a1_all_seatBits c_a1_all_entries c_a1_all_gains c_a1_all_solvedGains c_a1_all_left c_a1_all_best c_a1_all_ways c_a1_all_next c_a1_all_firstOf c_a1_all_clipAll c_a1_all_clipToOne c_a1_all_clipToTwo c_a1_steady_askers c_a1_steady_places c_a1_steady_seatBits c_a1_steady_entries c_a1_steady_gains c_a1_steady_solvedGains c_a1_steady_left c_a1_steady_best c_a1_steady_ways c_a1_steady_next c_a1_steady_firstOf c_a1_steady_clipAll c_a1_steady_clipToOne c_a1_steady_clipToTwo c_a1_aimed_askers c_a1_aimed_places c_a1_aimed_seatBits c_a1_aimed_entries c_a1_aimed_gains c_a1_aimed_solvedGains c_a1_aimed_left c_a1_aimed_best c_a1_aimed_ways c_a1_aimed_next c_a1_aimed_firstOf c_a1_aimed_clipAll c_a1_aimed_clipToOne c_a1_aimed_clipToTwo c_a1_steadiness_most c_a1_steadiness_tight c_a1_steadiness_firsts c_a1_trade_gets c_a1_trade_servedIn c_a1_trade_holds c_a1_trade_pointsAt c_a1_trade_holderOf c_a1_ring_length c_a1_ring_members c_a1_ring_wants c_a1_lots_age c_a1_lots_runs c_a1_lots_wanting c_a1_lots_wanted c_a1_lots_answers c_a1_lots_memoKeys c_a1_lots_memos c_a1_eating_whole c_a1_eating_time c_a1_eating_eaten c_a1_eating_rest c_a1_eating_eatsAt c_a1_eating_eaters c_a1_row c_a2_askers c_a2_places c_a2_above c_a2_below c_a2_full c_a2_firsts c_a2_freed c_a2_whole c_a2_seats c_a2_wish c_a2_told c_a2_weight c_a2_count c_a2_found c_a2_cost c_a2_least c_a2_prefer c_a2_next c_a2_firstWorth c_a2_secondWorth c_a2_stand c_a2_served c_a2_points c_a2_can c_a2_ring c_a2_ways c_a2_leftOf c_a2_ate c_a2_eats v3 hf; exact ob_0 hf
  | succ n ih =>
    intro c_a1_above c_a1_below c_a1_board_askers c_a1_board_places c_a1_board_age c_a1_board_seats c_a1_board_wishes c_a1_board_likes c_a1_board_told c_a1_all_slots c_a1_all_askers c_a1_all_places c_a1_all_seatBits c_a1_all_entries c_a1_all_gains c_a1_all_solvedGains c_a1_all_left c_a1_all_best c_a1_all_ways c_a1_all_next c_a1_all_firstOf c_a1_all_clipAll c_a1_all_clipToOne c_a1_all_clipToTwo c_a1_steady_askers c_a1_steady_places c_a1_steady_seatBits c_a1_steady_entries c_a1_steady_gains c_a1_steady_solvedGains c_a1_steady_left c_a1_steady_best c_a1_steady_ways c_a1_steady_next c_a1_steady_firstOf c_a1_steady_clipAll c_a1_steady_clipToOne c_a1_steady_clipToTwo c_a1_aimed_askers c_a1_aimed_places c_a1_aimed_seatBits c_a1_aimed_entries c_a1_aimed_gains c_a1_aimed_solvedGains c_a1_aimed_left c_a1_aimed_best c_a1_aimed_ways c_a1_aimed_next c_a1_aimed_firstOf c_a1_aimed_clipAll c_a1_aimed_clipToOne c_a1_aimed_clipToTwo c_a1_steadiness_most c_a1_steadiness_tight c_a1_steadiness_firsts c_a1_trade_gets c_a1_trade_servedIn c_a1_trade_holds c_a1_trade_pointsAt c_a1_trade_holderOf c_a1_ring_length c_a1_ring_members c_a1_ring_wants c_a1_lots_age c_a1_lots_runs c_a1_lots_wanting c_a1_lots_wanted c_a1_lots_answers c_a1_lots_memoKeys c_a1_lots_memos c_a1_eating_whole c_a1_eating_time c_a1_eating_eaten c_a1_eating_rest c_a1_eating_eatsAt c_a1_eating_eaters c_a1_row c_a2_askers c_a2_places c_a2_above c_a2_below c_a2_full c_a2_firsts c_a2_freed c_a2_whole c_a2_seats c_a2_wish c_a2_told c_a2_weight c_a2_count c_a2_found c_a2_cost c_a2_least c_a2_prefer c_a2_next c_a2_firstWorth c_a2_secondWorth c_a2_stand c_a2_served c_a2_points c_a2_can c_a2_ring c_a2_ways c_a2_leftOf c_a2_ate c_a2_eats v3 hf
    refine G_iload_n dL_law_18 rfl rfl ?_
    refine G_aload_n dL_law_19 rfl rfl ?_
    refine G_talen dL_law_20 (List.mem_of_getElem? (i := 0) rfl) ?_
    refine G_iconst 4 dL_law_21 (by decide) ?_
    refine G_isub dL_law_22 ?_
    refine G_icmp_gt 1062 dL_law_23 (by decide) (fun h1 => ?_) (fun h1 => ?_)
    · replace hf := ob_t h1 hf
      refine G_iconst 1 dL_law_1062 (by decide) ?_
      exact hend _ _
    · replace hf := ob_f h1 hf
      refine G_aload_n dL_law_26 rfl rfl ?_
      refine G_iload_n dL_law_27 rfl rfl ?_
      obtain ⟨t2, ht2, hf⟩ := ob hf
      refine G_tald dL_law_28 (List.mem_of_getElem? (i := 0) rfl) ht2 ?_
      refine G_bipush 31 dL_law_29 (by decide) ?_
      refine G_iand dL_law_31 ?_
      by_cases h3 : (t2 &&& (31 : Int32)) = 0
      · replace hf := ob_t h3 hf
        refine G_tswIn 0 164 h3 dL_law_32 (by decide) (by decide) rfl (by decide) ?_
        exact g_L_law_164 ih hf
      replace hf := ob_f h3 hf
      by_cases h4 : (t2 &&& (31 : Int32)) = 1
      · replace hf := ob_t h4 hf
        refine G_tswIn 1 177 h4 dL_law_32 (by decide) (by decide) rfl (by decide) ?_
        exact g_L_law_177 ih hf
      replace hf := ob_f h4 hf
      by_cases h5 : (t2 &&& (31 : Int32)) = 2
      · replace hf := ob_t h5 hf
        refine G_tswIn 2 200 h5 dL_law_32 (by decide) (by decide) rfl (by decide) ?_
        exact g_L_law_200 ih hf
      replace hf := ob_f h5 hf
      by_cases h6 : (t2 &&& (31 : Int32)) = 3
      · replace hf := ob_t h6 hf
        refine G_tswIn 3 233 h6 dL_law_32 (by decide) (by decide) rfl (by decide) ?_
        exact g_L_law_233 ih hf
      replace hf := ob_f h6 hf
      by_cases h7 : (t2 &&& (31 : Int32)) = 4
      · replace hf := ob_t h7 hf
        refine G_tswIn 4 276 h7 dL_law_32 (by decide) (by decide) rfl (by decide) ?_
        exact g_L_law_276 ih hf
      replace hf := ob_f h7 hf
      by_cases h8 : (t2 &&& (31 : Int32)) = 5
      · replace hf := ob_t h8 hf
        refine G_tswIn 5 309 h8 dL_law_32 (by decide) (by decide) rfl (by decide) ?_
        exact g_L_law_309 ih hf
      replace hf := ob_f h8 hf
      by_cases h9 : (t2 &&& (31 : Int32)) = 6
      · replace hf := ob_t h9 hf
        refine G_tswIn 6 323 h9 dL_law_32 (by decide) (by decide) rfl (by decide) ?_
        exact g_L_law_323 ih hf
      replace hf := ob_f h9 hf
      by_cases h10 : (t2 &&& (31 : Int32)) = 7
      · replace hf := ob_t h10 hf
        refine G_tswIn 7 386 h10 dL_law_32 (by decide) (by decide) rfl (by decide) ?_
        exact g_L_law_386 ih hf
      replace hf := ob_f h10 hf
      by_cases h11 : (t2 &&& (31 : Int32)) = 8
      · replace hf := ob_t h11 hf
        refine G_tswIn 8 429 h11 dL_law_32 (by decide) (by decide) rfl (by decide) ?_
        exact g_L_law_429 ih hf
      replace hf := ob_f h11 hf
      by_cases h12 : (t2 &&& (31 : Int32)) = 9
      · replace hf := ob_t h12 hf
        refine G_tswIn 9 462 h12 dL_law_32 (by decide) (by decide) rfl (by decide) ?_
        exact g_L_law_462 ih hf
      replace hf := ob_f h12 hf
      by_cases h13 : (t2 &&& (31 : Int32)) = 10
      · replace hf := ob_t h13 hf
        refine G_tswIn 10 495 h13 dL_law_32 (by decide) (by decide) rfl (by decide) ?_
        exact g_L_law_495 ih hf
      replace hf := ob_f h13 hf
      by_cases h14 : (t2 &&& (31 : Int32)) = 11
      · replace hf := ob_t h14 hf
        refine G_tswIn 11 519 h14 dL_law_32 (by decide) (by decide) rfl (by decide) ?_
        exact g_L_law_519 ih hf
      replace hf := ob_f h14 hf
      by_cases h15 : (t2 &&& (31 : Int32)) = 12
      · replace hf := ob_t h15 hf
        refine G_tswIn 12 552 h15 dL_law_32 (by decide) (by decide) rfl (by decide) ?_
        exact g_L_law_552 ih hf
      replace hf := ob_f h15 hf
      by_cases h16 : (t2 &&& (31 : Int32)) = 13
      · replace hf := ob_t h16 hf
        refine G_tswIn 13 585 h16 dL_law_32 (by decide) (by decide) rfl (by decide) ?_
        exact g_L_law_585 ih hf
      replace hf := ob_f h16 hf
      by_cases h17 : (t2 &&& (31 : Int32)) = 14
      · replace hf := ob_t h17 hf
        refine G_tswIn 14 608 h17 dL_law_32 (by decide) (by decide) rfl (by decide) ?_
        exact g_L_law_608 ih hf
      replace hf := ob_f h17 hf
      by_cases h18 : (t2 &&& (31 : Int32)) = 15
      · replace hf := ob_t h18 hf
        refine G_tswIn 15 641 h18 dL_law_32 (by decide) (by decide) rfl (by decide) ?_
        exact g_L_law_641 ih hf
      replace hf := ob_f h18 hf
      by_cases h19 : (t2 &&& (31 : Int32)) = 16
      · replace hf := ob_t h19 hf
        refine G_tswIn 16 664 h19 dL_law_32 (by decide) (by decide) rfl (by decide) ?_
        exact g_L_law_664 ih hf
      replace hf := ob_f h19 hf
      by_cases h20 : (t2 &&& (31 : Int32)) = 17
      · replace hf := ob_t h20 hf
        refine G_tswIn 17 688 h20 dL_law_32 (by decide) (by decide) rfl (by decide) ?_
        exact g_L_law_688 ih hf
      replace hf := ob_f h20 hf
      by_cases h21 : (t2 &&& (31 : Int32)) = 18
      · replace hf := ob_t h21 hf
        refine G_tswIn 18 711 h21 dL_law_32 (by decide) (by decide) rfl (by decide) ?_
        exact g_L_law_711 ih hf
      replace hf := ob_f h21 hf
      by_cases h22 : (t2 &&& (31 : Int32)) = 19
      · replace hf := ob_t h22 hf
        refine G_tswIn 19 725 h22 dL_law_32 (by decide) (by decide) rfl (by decide) ?_
        exact g_L_law_725 ih hf
      replace hf := ob_f h22 hf
      by_cases h23 : (t2 &&& (31 : Int32)) = 20
      · replace hf := ob_t h23 hf
        refine G_tswIn 20 788 h23 dL_law_32 (by decide) (by decide) rfl (by decide) ?_
        exact g_L_law_788 ih hf
      replace hf := ob_f h23 hf
      by_cases h24 : (t2 &&& (31 : Int32)) = 21
      · replace hf := ob_t h24 hf
        refine G_tswIn 21 811 h24 dL_law_32 (by decide) (by decide) rfl (by decide) ?_
        exact g_L_law_811 ih hf
      replace hf := ob_f h24 hf
      by_cases h25 : (t2 &&& (31 : Int32)) = 22
      · replace hf := ob_t h25 hf
        refine G_tswIn 22 844 h25 dL_law_32 (by decide) (by decide) rfl (by decide) ?_
        exact g_L_law_844 ih hf
      replace hf := ob_f h25 hf
      by_cases h26 : (t2 &&& (31 : Int32)) = 23
      · replace hf := ob_t h26 hf
        refine G_tswIn 23 877 h26 dL_law_32 (by decide) (by decide) rfl (by decide) ?_
        exact g_L_law_877 ih hf
      replace hf := ob_f h26 hf
      by_cases h27 : (t2 &&& (31 : Int32)) = 24
      · replace hf := ob_t h27 hf
        refine G_tswIn 24 920 h27 dL_law_32 (by decide) (by decide) rfl (by decide) ?_
        exact g_L_law_920 ih hf
      replace hf := ob_f h27 hf
      by_cases h28 : (t2 &&& (31 : Int32)) = 25
      · replace hf := ob_t h28 hf
        refine G_tswIn 25 953 h28 dL_law_32 (by decide) (by decide) rfl (by decide) ?_
        exact g_L_law_953 ih hf
      replace hf := ob_f h28 hf
      by_cases h29 : (t2 &&& (31 : Int32)) = 26
      · replace hf := ob_t h29 hf
        refine G_tswIn 26 986 h29 dL_law_32 (by decide) (by decide) rfl (by decide) ?_
        exact g_L_law_986 ih hf
      replace hf := ob_f h29 hf
      by_cases h30 : (t2 &&& (31 : Int32)) = 27
      · replace hf := ob_t h30 hf
        refine G_tswIn 27 1019 h30 dL_law_32 (by decide) (by decide) rfl (by decide) ?_
        exact g_L_law_1019 ih hf
      replace hf := ob_f h30 hf
      by_cases h31 : (t2 &&& (31 : Int32)) = 28
      · replace hf := ob_t h31 hf
        refine G_tswIn 28 1042 h31 dL_law_32 (by decide) (by decide) rfl (by decide) ?_
        exact g_L_law_1042 ih hf
      replace hf := ob_f h31 hf
      refine G_tswOut 1056 [0, 1, 2, 3, 4, 5, 6, 7, 8, 9, 10, 11, 12, 13, 14, 15, 16, 17, 18, 19, 20, 21, 22, 23, 24, 25, 26, 27, 28] (by decide) (List.forall_mem_cons.mpr ⟨h3, (List.forall_mem_cons.mpr ⟨h4, (List.forall_mem_cons.mpr ⟨h5, (List.forall_mem_cons.mpr ⟨h6, (List.forall_mem_cons.mpr ⟨h7, (List.forall_mem_cons.mpr ⟨h8, (List.forall_mem_cons.mpr ⟨h9, (List.forall_mem_cons.mpr ⟨h10, (List.forall_mem_cons.mpr ⟨h11, (List.forall_mem_cons.mpr ⟨h12, (List.forall_mem_cons.mpr ⟨h13, (List.forall_mem_cons.mpr ⟨h14, (List.forall_mem_cons.mpr ⟨h15, (List.forall_mem_cons.mpr ⟨h16, (List.forall_mem_cons.mpr ⟨h17, (List.forall_mem_cons.mpr ⟨h18, (List.forall_mem_cons.mpr ⟨h19, (List.forall_mem_cons.mpr ⟨h20, (List.forall_mem_cons.mpr ⟨h21, (List.forall_mem_cons.mpr ⟨h22, (List.forall_mem_cons.mpr ⟨h23, (List.forall_mem_cons.mpr ⟨h24, (List.forall_mem_cons.mpr ⟨h25, (List.forall_mem_cons.mpr ⟨h26, (List.forall_mem_cons.mpr ⟨h27, (List.forall_mem_cons.mpr ⟨h28, (List.forall_mem_cons.mpr ⟨h29, (List.forall_mem_cons.mpr ⟨h30, (List.forall_mem_cons.mpr ⟨h31, (fun _ h => absurd h List.not_mem_nil)⟩)⟩)⟩)⟩)⟩)⟩)⟩)⟩)⟩)⟩)⟩)⟩)⟩)⟩)⟩)⟩)⟩)⟩)⟩)⟩)⟩)⟩)⟩)⟩)⟩)⟩)⟩)⟩)⟩) dL_law_32 (by decide) ?_
      refine G_iinc 4 dL_law_1056 (by decide) rfl (ltb rfl) ?_
      change GG _ _ _ _ _ _ _ _ _ _ [some (.ref 1000), some (.ref 0), some (.ref 61), some (.int (v3 + 4))] _
      refine G_goto 18 dL_law_1059 (by decide) ?_
      exact ih hf
