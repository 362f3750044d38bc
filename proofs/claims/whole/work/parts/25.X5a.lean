/-! printed by wip/gen: WishPlaces$Steady, part 0 -/
set_option maxRecDepth 100000 in
theorem uX5 : ∀ w ∈ u_ws RX5 TX5 4, w ∈ ALLW := by decide +kernel
theorem F_X5_9 : FLD RX5 9 5 0 (.object "WishPlaces$Board") true := ⟨RX5, TX5, 4, tyX5, rfl, by decide, uX5, all_of 125 (by decide +kernel) (by decide +kernel), tyX5_ok, rfl, nmX5, rfl⟩
theorem F_X5_15 : FLD RX5 15 5 2 (.array .int) true := ⟨RX5, TX5, 4, tyX5, rfl, by decide, uX5, all_of 128 (by decide +kernel) (by decide +kernel), tyX5_ok, rfl, nmX5, rfl⟩
theorem F_X5_19 : FLD RX5 19 0 0 .int false := ⟨RX0, TX0, 7, tyX0, rfl, by decide, uX0, all_of 27 (by decide +kernel) (by decide +kernel), tyX0_ok, rfl, nmX0, rfl⟩
theorem F_X5_29 : FLD RX5 29 5 1 .int false := ⟨RX5, TX5, 4, tyX5, rfl, by decide, uX5, all_of 126 (by decide +kernel) (by decide +kernel), tyX5_ok, rfl, nmX5, rfl⟩
theorem F_X5_32 : FLD RX5 32 5 3 .int false := ⟨RX5, TX5, 4, tyX5, rfl, by decide, uX5, all_of 129 (by decide +kernel) (by decide +kernel), tyX5_ok, rfl, nmX5, rfl⟩
theorem F_X5_35 : FLD RX5 35 0 1 .int false := ⟨RX0, TX0, 7, tyX0, rfl, by decide, uX0, all_of 34 (by decide +kernel) (by decide +kernel), tyX0_ok, rfl, nmX0, rfl⟩
theorem F_X5_49 : FLD RX5 49 0 3 (.array .int) true := ⟨RX0, TX0, 7, tyX0, rfl, by decide, uX0, all_of 43 (by decide +kernel) (by decide +kernel), tyX0_ok, rfl, nmX0, rfl⟩
theorem m_X5_25 : Cond.methodLink RX5 25 yX5_firstBits ∈ ALLW := all_of 599 (by decide +kernel) (by decide +kernel)
theorem m_X5_38 : Cond.methodLink RX5 38 yX5_weighCover ∈ ALLW := all_of 605 (by decide +kernel) (by decide +kernel)
theorem m_X5_42 : Cond.methodLink RX5 42 yX0_wishOf ∈ ALLW := all_of 603 (by decide +kernel) (by decide +kernel)
theorem m_X5_46 : Cond.methodLink RX5 46 yX0_firstWorth ∈ ALLW := all_of 604 (by decide +kernel) (by decide +kernel)
theorem m_X5_52 : Cond.methodLink RX5 52 yX5_secondWorth ∈ ALLW := all_of 613 (by decide +kernel) (by decide +kernel)
theorem m_X5_58 : Cond.methodLink RX5 58 yX4_setGain ∈ ALLW := all_of 623 (by decide +kernel) (by decide +kernel)
theorem m_X5_62 : Cond.methodLink RX5 62 yX5_isTight ∈ ALLW := all_of 617 (by decide +kernel) (by decide +kernel)
theorem m_X5_66 : Cond.methodLink RX5 66 yX0_worthOf ∈ ALLW := all_of 621 (by decide +kernel) (by decide +kernel)
theorem k_X5_57 : Cond.constant RX5 57 (-2000000000 : Int32) ∈ ALLW := all_of 622 (by decide +kernel) (by decide +kernel)
abbrev mu_X5_firstBits : KM := (yX5_firstBits, cX5_firstBits, 4, (some .int), { frames := 2, cells := 0, slots := 0, locals := 44 }, [], [])
def w_X5_firstBits (c_board_places : Int32) (c_board_likes : Nat → Int32) (c_board_wishes : Nat → Int32) (u_most : Int32) (u_tight : Int32) (u_board_askers : Int32) (u_board_age : Int32) : List mE := [.inr (5, [.ref 1, .int u_most, .ref 1000, .int u_tight]), .inr (0, [.int u_board_askers, .int c_board_places, .int u_board_age, .ref 1001, .ref 3, .ref 2, .ref 1002]), .inl (0, 48, .inl c_board_likes), .inl (0, 48, .inl c_board_wishes)]
theorem cw_X5_firstBits : CWv mu_X5_firstBits 1 := ⟨⟨all_of 602 (by decide +kernel) (by decide +kernel), all_of 4 (by decide +kernel) (by decide +kernel), by decide +kernel, by decide +kernel, by decide +kernel⟩, all_of 601 (by decide +kernel) (by decide +kernel), all_pr 30 (by decide +kernel) (by decide +kernel)⟩
abbrev mu_X5_weighCover : KM := (yX5_weighCover, cX5_weighCover, 4, none, { frames := 0, cells := 0, slots := 0, locals := 0 }, [], [])
def w_X5_weighCover (c_most : Int32) (c_tight : Int32) (c_board_askers : Int32) (c_board_places : Int32) (c_firsts : Nat → Int32) (c_board_seats : Nat → Int32) (u_board_age : Int32) : List mE := [.inr (5, [.ref 1, .int c_most, .ref 2, .int c_tight]), .inr (0, [.int c_board_askers, .int c_board_places, .int u_board_age, .ref 3, .ref 1000, .ref 1001, .ref 1002]), .inl (0, 8, .inl c_firsts), .inl (0, 6, .inl c_board_seats)]
theorem cw_X5_weighCover : CWv mu_X5_weighCover 1 := ⟨⟨all_of 608 (by decide +kernel) (by decide +kernel), all_of 4 (by decide +kernel) (by decide +kernel), by decide +kernel, by decide +kernel, by decide +kernel⟩, all_of 607 (by decide +kernel) (by decide +kernel), all_pr 31 (by decide +kernel) (by decide +kernel)⟩
abbrev mu_X5_learn : KM := (yX5_learn, cX5_learn, 2, none, { frames := 3, cells := 0, slots := 0, locals := 67 }, [], [])
def w_X5_learn (c_most : Int32) (c_tight : Int32) (c_board_askers : Int32) (c_board_places : Int32) (c_firsts : Nat → Int32) (c_board_likes : Nat → Int32) (c_board_seats : Nat → Int32) (c_board_wishes : Nat → Int32) (u_board_age : Int32) : List mE := [.inr (5, [.ref 1, .int c_most, .ref 2, .int c_tight]), .inr (0, [.int c_board_askers, .int c_board_places, .int u_board_age, .ref 4, .ref 5, .ref 3, .ref 1000]), .inl (0, 8, .inl c_firsts), .inl (0, 48, .inl c_board_likes), .inl (0, 6, .inl c_board_seats), .inl (0, 48, .inl c_board_wishes)]
theorem cw_X5_learn : CWv mu_X5_learn 0 := ⟨⟨all_of 598 (by decide +kernel) (by decide +kernel), all_of 4 (by decide +kernel) (by decide +kernel), by decide +kernel, by decide +kernel, by decide +kernel⟩, all_of 596 (by decide +kernel) (by decide +kernel), all_of 597 (by decide +kernel) (by decide +kernel)⟩
abbrev mu_X5_isTight : KM := (yX5_isTight, cX5_isTight, 2, (some .boolean), { frames := 0, cells := 0, slots := 0, locals := 0 }, [], [])
def w_X5_isTight (c_tight : Int32) (u_most : Int32) : List mE := [.inr (5, [.ref 1000, .int u_most, .ref 1001, .int c_tight])]
theorem cw_X5_isTight : CWv mu_X5_isTight 1 := ⟨⟨all_of 620 (by decide +kernel) (by decide +kernel), all_of 4 (by decide +kernel) (by decide +kernel), by decide +kernel, by decide +kernel, by decide +kernel⟩, all_of 619 (by decide +kernel) (by decide +kernel), all_pr 33 (by decide +kernel) (by decide +kernel)⟩
abbrev mu_X5_secondWorth : KM := (yX5_secondWorth, cX5_secondWorth, 4, (some .int), { frames := 1, cells := 0, slots := 0, locals := 23 }, [], [])
def w_X5_secondWorth (c_tight : Int32) (c_board_places : Int32) (c_board_wishes : Nat → Int32) (u_most : Int32) (u_board_askers : Int32) (u_board_age : Int32) : List mE := [.inr (5, [.ref 1, .int u_most, .ref 1000, .int c_tight]), .inr (0, [.int u_board_askers, .int c_board_places, .int u_board_age, .ref 1001, .ref 2, .ref 1002, .ref 1003]), .inl (0, 48, .inl c_board_wishes)]
theorem cw_X5_secondWorth : CWv mu_X5_secondWorth 1 := ⟨⟨all_of 616 (by decide +kernel) (by decide +kernel), all_of 4 (by decide +kernel) (by decide +kernel), by decide +kernel, by decide +kernel, by decide +kernel⟩, all_of 615 (by decide +kernel) (by decide +kernel), all_pr 32 (by decide +kernel) (by decide +kernel)⟩
abbrev mu_X5_fillGains : KM := (yX5_fillGains, cX5_fillGains, 8, none, { frames := 2, cells := 0, slots := 0, locals := 46 }, [], [])
def w_X5_fillGains (c_tight : Int32) (c_a1_gains : Nat → Int32) (c_board_askers : Int32) (c_board_places : Int32) (c_firsts : Nat → Int32) (c_board_wishes : Nat → Int32) (u_most : Int32) (u_a1_askers : Int32) (u_a1_places : Int32) (u_a1_seatBits : Int32) (u_a1_entries : Int32) (u_board_age : Int32) : List mE := [.inr (5, [.ref 3, .int u_most, .ref 4, .int c_tight]), .inr (4, [.ref 1000, .ref 2, .ref 1001, .int u_a1_askers, .int u_a1_places, .int u_a1_seatBits, .ref 1002, .ref 1003, .ref 1004, .ref 1005, .ref 1006, .int u_a1_entries, .ref 1007, .ref 1008, .ref 1009, .ref 1010]), .inl (0, 56, .inl c_a1_gains), .inr (0, [.int c_board_askers, .int c_board_places, .int u_board_age, .ref 1011, .ref 5, .ref 1012, .ref 1013]), .inl (0, 8, .inl c_firsts), .inl (0, 48, .inl c_board_wishes)]
theorem cw_X5_fillGains : CWv mu_X5_fillGains 3 := ⟨⟨all_of 612 (by decide +kernel) (by decide +kernel), all_of 4 (by decide +kernel) (by decide +kernel), by decide +kernel, by decide +kernel, by decide +kernel⟩, all_of 610 (by decide +kernel) (by decide +kernel), all_of 611 (by decide +kernel) (by decide +kernel)⟩
set_option maxRecDepth 20000 in
theorem dX5_firstBits_0 : decode cX5_firstBits 0 = .ok (.iconst 0, 1) := by decide +kernel
set_option maxRecDepth 20000 in
theorem dX5_firstBits_1 : decode cX5_firstBits 1 = .ok (.istore_n 2, 1) := by decide +kernel
set_option maxRecDepth 20000 in
theorem dX5_firstBits_2 : decode cX5_firstBits 2 = .ok (.iconst 0, 1) := by decide +kernel
set_option maxRecDepth 20000 in
theorem dX5_firstBits_3 : decode cX5_firstBits 3 = .ok (.istore_n 3, 1) := by decide +kernel
set_option maxRecDepth 20000 in
theorem dX5_firstBits_4 : decode cX5_firstBits 4 = .ok (.iload_n 3, 1) := by decide +kernel
set_option maxRecDepth 20000 in
theorem dX5_firstBits_5 : decode cX5_firstBits 5 = .ok (.aload_n 0, 1) := by decide +kernel
set_option maxRecDepth 20000 in
theorem dX5_firstBits_6 : decode cX5_firstBits 6 = .ok (.getfield 9, 3) := by decide +kernel
set_option maxRecDepth 20000 in
theorem dX5_firstBits_9 : decode cX5_firstBits 9 = .ok (.getfield 35, 3) := by decide +kernel
set_option maxRecDepth 20000 in
theorem dX5_firstBits_12 : decode cX5_firstBits 12 = .ok (.if_icmp .ge 47, 3) := by decide +kernel
set_option maxRecDepth 20000 in
theorem dX5_firstBits_15 : decode cX5_firstBits 15 = .ok (.aload_n 0, 1) := by decide +kernel
set_option maxRecDepth 20000 in
theorem dX5_firstBits_16 : decode cX5_firstBits 16 = .ok (.getfield 9, 3) := by decide +kernel
set_option maxRecDepth 20000 in
theorem dX5_firstBits_19 : decode cX5_firstBits 19 = .ok (.iload_n 1, 1) := by decide +kernel
set_option maxRecDepth 20000 in
theorem dX5_firstBits_20 : decode cX5_firstBits 20 = .ok (.iload_n 3, 1) := by decide +kernel
set_option maxRecDepth 20000 in
theorem dX5_firstBits_21 : decode cX5_firstBits 21 = .ok (.invokevirtual 42, 3) := by decide +kernel
set_option maxRecDepth 20000 in
theorem dX5_firstBits_24 : decode cX5_firstBits 24 = .ok (.ifCond .le 29, 3) := by decide +kernel
set_option maxRecDepth 20000 in
theorem dX5_firstBits_27 : decode cX5_firstBits 27 = .ok (.aload_n 0, 1) := by decide +kernel
set_option maxRecDepth 20000 in
theorem dX5_firstBits_28 : decode cX5_firstBits 28 = .ok (.getfield 9, 3) := by decide +kernel
set_option maxRecDepth 20000 in
theorem dX5_firstBits_31 : decode cX5_firstBits 31 = .ok (.iload_n 1, 1) := by decide +kernel
set_option maxRecDepth 20000 in
theorem dX5_firstBits_32 : decode cX5_firstBits 32 = .ok (.iload_n 3, 1) := by decide +kernel
set_option maxRecDepth 20000 in
theorem dX5_firstBits_33 : decode cX5_firstBits 33 = .ok (.invokevirtual 42, 3) := by decide +kernel
set_option maxRecDepth 20000 in
theorem dX5_firstBits_36 : decode cX5_firstBits 36 = .ok (.aload_n 0, 1) := by decide +kernel
set_option maxRecDepth 20000 in
theorem dX5_firstBits_37 : decode cX5_firstBits 37 = .ok (.getfield 9, 3) := by decide +kernel
set_option maxRecDepth 20000 in
theorem dX5_firstBits_40 : decode cX5_firstBits 40 = .ok (.iload_n 1, 1) := by decide +kernel
set_option maxRecDepth 20000 in
theorem dX5_firstBits_41 : decode cX5_firstBits 41 = .ok (.invokevirtual 46, 3) := by decide +kernel
set_option maxRecDepth 20000 in
theorem dX5_firstBits_44 : decode cX5_firstBits 44 = .ok (.if_icmp .ne 9, 3) := by decide +kernel
set_option maxRecDepth 20000 in
theorem dX5_firstBits_47 : decode cX5_firstBits 47 = .ok (.iload_n 2, 1) := by decide +kernel
set_option maxRecDepth 20000 in
theorem dX5_firstBits_48 : decode cX5_firstBits 48 = .ok (.iconst 1, 1) := by decide +kernel
set_option maxRecDepth 20000 in
theorem dX5_firstBits_49 : decode cX5_firstBits 49 = .ok (.iload_n 3, 1) := by decide +kernel
set_option maxRecDepth 20000 in
theorem dX5_firstBits_50 : decode cX5_firstBits 50 = .ok (.ishl, 1) := by decide +kernel
set_option maxRecDepth 20000 in
theorem dX5_firstBits_51 : decode cX5_firstBits 51 = .ok (.ior, 1) := by decide +kernel
set_option maxRecDepth 20000 in
theorem dX5_firstBits_52 : decode cX5_firstBits 52 = .ok (.istore_n 2, 1) := by decide +kernel
set_option maxRecDepth 20000 in
theorem dX5_firstBits_53 : decode cX5_firstBits 53 = .ok (.iinc 3 1, 3) := by decide +kernel
set_option maxRecDepth 20000 in
theorem dX5_firstBits_56 : decode cX5_firstBits 56 = .ok (.goto (-52), 3) := by decide +kernel
set_option maxRecDepth 20000 in
theorem dX5_firstBits_59 : decode cX5_firstBits 59 = .ok (.iload_n 2, 1) := by decide +kernel
set_option maxRecDepth 20000 in
theorem dX5_firstBits_60 : decode cX5_firstBits 60 = .ok (.ireturn, 1) := by decide +kernel
def f_X5_firstBits_4 (N : Nat) (c_board_places : Int32) (c_board_likes : Nat → Int32) (c_board_wishes : Nat → Int32) : Nat → Int32 → Int32 → Int32 → Option (Int32)
  | 0, _, _, _ => none
  | n + 1, v1, v2, v3 =>
    (if c_board_places ≤ v3 then
      some v2
    else
      (f_X0_wishOf N c_board_wishes v1 v3).bind fun r2 =>
      (if r2 ≤ 0 then
        f_X5_firstBits_4 N c_board_places c_board_likes c_board_wishes n v1 v2 (v3 + 1)
      else
        (f_X0_wishOf N c_board_wishes v1 v3).bind fun r5 =>
        (f_X0_firstWorth N c_board_likes c_board_wishes v1).bind fun r7 =>
        (if r5 = r7 then
          f_X5_firstBits_4 N c_board_places c_board_likes c_board_wishes n v1 (v2 ||| ((1 : Int32) <<< (v3 &&& 31))) (v3 + 1)
        else
          f_X5_firstBits_4 N c_board_places c_board_likes c_board_wishes n v1 v2 (v3 + 1))))
set_option maxHeartbeats 4000000 in
set_option maxRecDepth 100000 in
theorem g_X5_firstBits_4 {κ : KC} {ω : KW} {A : Nat → Prop} {ad : Nat → Nat} {u_most : Int32} {u_tight : Int32} {u_board_askers : Int32} {u_board_age : Int32} {N : Nat} {c_board_places : Int32} {c_board_likes : Nat → Int32} {c_board_wishes : Nat → Int32}  {res : Int32} : ∀ (n : Nat) {v1 : Int32} {v2 : Int32} {v3 : Int32}, f_X5_firstBits_4 N c_board_places c_board_likes c_board_wishes n v1 v2 v3 = some res → GG mu_X5_firstBits κ ω A (QR κ ω A ad (some (.int res)) (w_X5_firstBits c_board_places c_board_likes c_board_wishes u_most u_tight u_board_askers u_board_age)) ad 0 0 4 (w_X5_firstBits c_board_places c_board_likes c_board_wishes u_most u_tight u_board_askers u_board_age) [some (.ref 0), some (.int v1), some (.int v2), some (.int v3)] [] := by
  intro n
  induction n with
  | zero => intro v1 v2 v3 hf; exact ob_0 hf
  | succ n ih =>
    intro v1 v2 v3 hf
    refine G_iload_n dX5_firstBits_4 rfl rfl ?_
    refine G_aload_n dX5_firstBits_5 rfl rfl ?_
    refine G_get (v := .ref 1) F_X5_9 dX5_firstBits_6 rfl rfl ?_
    refine G_get (v := .int c_board_places) F_X5_35 dX5_firstBits_9 rfl rfl ?_
    refine G_icmp_ge 59 dX5_firstBits_12 (by decide) (fun h1 => ?_) (fun h1 => ?_)
    · replace hf := ob_t h1 hf
      refine G_iload_n dX5_firstBits_59 rfl rfl ?_
      obtain rfl := os hf
      exact G_ireturn dX5_firstBits_60 rfl
    · replace hf := ob_f h1 hf
      refine G_aload_n dX5_firstBits_15 rfl rfl ?_
      refine G_get (v := .ref 1) F_X5_9 dX5_firstBits_16 rfl rfl ?_
      refine G_iload_n dX5_firstBits_19 rfl rfl ?_
      refine G_iload_n dX5_firstBits_20 rfl rfl ?_
      obtain ⟨r2, hc3, hf⟩ := ob hf
      refine G_callV (μ2 := mu_X0_wishOf) (As := [.int v1, .int v3]) (w2 := (w_X5_firstBits c_board_places c_board_likes c_board_wishes u_most u_tight u_board_askers u_board_age)) (wc := (w_X0_wishOf c_board_wishes u_board_askers c_board_places u_board_age)) (wc2 := (w_X0_wishOf c_board_wishes u_board_askers c_board_places u_board_age)) (rest := []) (rv := [.int r2]) [1, 3] [1001, 2, 1002] [0, 2] [0, 2, 1, 3] (c_X0_wishOf hc3) cw_X0_wishOf m_X5_42 dX5_firstBits_21 rfl ⟨leb rfl, leb rfl⟩ ⟨rfl, rfl⟩ rfl ⟨_, rfl, rfl⟩ (Fit.mk rfl rfl rfl) rfl (leb rfl) (ROsub.nil rfl rfl) rfl ?_
      change GG _ _ _ _ _ _ _ _ _ (w_X5_firstBits c_board_places c_board_likes c_board_wishes u_most u_tight u_board_askers u_board_age) [some (.ref 0), some (.int v1), some (.int v2), some (.int v3)] [.int r2]
      refine G_if_le 53 dX5_firstBits_24 (by decide) (fun h4 => ?_) (fun h4 => ?_)
      · replace hf := ob_t h4 hf
        refine G_iinc 1 dX5_firstBits_53 (by decide) rfl (ltb rfl) ?_
        change GG _ _ _ _ _ _ _ _ _ _ [some (.ref 0), some (.int v1), some (.int v2), some (.int (v3 + 1))] _
        refine G_goto 4 dX5_firstBits_56 (by decide) ?_
        exact ih hf
      · replace hf := ob_f h4 hf
        refine G_aload_n dX5_firstBits_27 rfl rfl ?_
        refine G_get (v := .ref 1) F_X5_9 dX5_firstBits_28 rfl rfl ?_
        refine G_iload_n dX5_firstBits_31 rfl rfl ?_
        refine G_iload_n dX5_firstBits_32 rfl rfl ?_
        obtain ⟨r5, hc6, hf⟩ := ob hf
        refine G_callV (μ2 := mu_X0_wishOf) (As := [.int v1, .int v3]) (w2 := (w_X5_firstBits c_board_places c_board_likes c_board_wishes u_most u_tight u_board_askers u_board_age)) (wc := (w_X0_wishOf c_board_wishes u_board_askers c_board_places u_board_age)) (wc2 := (w_X0_wishOf c_board_wishes u_board_askers c_board_places u_board_age)) (rest := []) (rv := [.int r5]) [1, 3] [1001, 2, 1002] [0, 2] [0, 2, 1, 3] (c_X0_wishOf hc6) cw_X0_wishOf m_X5_42 dX5_firstBits_33 rfl ⟨leb rfl, leb rfl⟩ ⟨rfl, rfl⟩ rfl ⟨_, rfl, rfl⟩ (Fit.mk rfl rfl rfl) rfl (leb rfl) (ROsub.nil rfl rfl) rfl ?_
        change GG _ _ _ _ _ _ _ _ _ (w_X5_firstBits c_board_places c_board_likes c_board_wishes u_most u_tight u_board_askers u_board_age) [some (.ref 0), some (.int v1), some (.int v2), some (.int v3)] [.int r5]
        refine G_aload_n dX5_firstBits_36 rfl rfl ?_
        refine G_get (v := .ref 1) F_X5_9 dX5_firstBits_37 rfl rfl ?_
        refine G_iload_n dX5_firstBits_40 rfl rfl ?_
        obtain ⟨r7, hc8, hf⟩ := ob hf
        refine G_callV (μ2 := mu_X0_firstWorth) (As := [.int v1]) (w2 := (w_X5_firstBits c_board_places c_board_likes c_board_wishes u_most u_tight u_board_askers u_board_age)) (wc := (w_X0_firstWorth c_board_likes c_board_wishes u_board_askers c_board_places u_board_age)) (wc2 := (w_X0_firstWorth c_board_likes c_board_wishes u_board_askers c_board_places u_board_age)) (rest := [.int r5]) (rv := [.int r7]) [1, 2, 3] [1001, 1002] [0] [0, 1, 2, 3] (c_X0_firstWorth hc8) cw_X0_firstWorth m_X5_46 dX5_firstBits_41 rfl ⟨leb rfl, leb rfl⟩ ⟨rfl, rfl⟩ rfl ⟨_, rfl, rfl⟩ (Fit.mk rfl rfl rfl) rfl (leb rfl) (ROsub.nil rfl rfl) rfl ?_
        change GG _ _ _ _ _ _ _ _ _ (w_X5_firstBits c_board_places c_board_likes c_board_wishes u_most u_tight u_board_askers u_board_age) [some (.ref 0), some (.int v1), some (.int v2), some (.int v3)] [.int r7, .int r5]
        refine G_icmp_ne 53 dX5_firstBits_44 (by decide) (fun h9 => ?_) (fun h9 => ?_)
        · replace hf := ob_f h9 hf
          refine G_iinc 1 dX5_firstBits_53 (by decide) rfl (ltb rfl) ?_
          change GG _ _ _ _ _ _ _ _ _ _ [some (.ref 0), some (.int v1), some (.int v2), some (.int (v3 + 1))] _
          refine G_goto 4 dX5_firstBits_56 (by decide) ?_
          exact ih hf
        · replace hf := ob_t h9 hf
          refine G_iload_n dX5_firstBits_47 rfl rfl ?_
          refine G_iconst 1 dX5_firstBits_48 (by decide) ?_
          refine G_iload_n dX5_firstBits_49 rfl rfl ?_
          refine G_ishl dX5_firstBits_50 ?_
          refine G_ior dX5_firstBits_51 ?_
          refine G_istore_n dX5_firstBits_52 rfl (ltb rfl) ?_
          change GG _ _ _ _ _ _ _ _ _ _ [some (.ref 0), some (.int v1), some (.int (v2 ||| ((1 : Int32) <<< (v3 &&& 31)))), some (.int v3)] _
          refine G_iinc 1 dX5_firstBits_53 (by decide) rfl (ltb rfl) ?_
          change GG _ _ _ _ _ _ _ _ _ _ [some (.ref 0), some (.int v1), some (.int (v2 ||| ((1 : Int32) <<< (v3 &&& 31)))), some (.int (v3 + 1))] _
          refine G_goto 4 dX5_firstBits_56 (by decide) ?_
          exact ih hf
def f_X5_firstBits (N : Nat) (c_board_places : Int32) (c_board_likes : Nat → Int32) (c_board_wishes : Nat → Int32) (a1 : Int32) : Option (Int32) :=
  f_X5_firstBits_4 N c_board_places c_board_likes c_board_wishes N a1 0 0
set_option maxHeartbeats 4000000 in
set_option maxRecDepth 100000 in
theorem c_X5_firstBits {N : Nat} {c_board_places : Int32} {c_board_likes : Nat → Int32} {c_board_wishes : Nat → Int32}  {u_most : Int32} {u_tight : Int32} {u_board_askers : Int32} {u_board_age : Int32} {a1 : Int32} {res : Int32} (hf : f_X5_firstBits N c_board_places c_board_likes c_board_wishes a1 = some res) : Con mu_X5_firstBits [.ref 0, .int a1] (w_X5_firstBits c_board_places c_board_likes c_board_wishes u_most u_tight u_board_askers u_board_age) (some (.int res)) (w_X5_firstBits c_board_places c_board_likes c_board_wishes u_most u_tight u_board_askers u_board_age) := by
  refine Con.mk (show plainName RX5 = true by decide +kernel) (leb rfl) (fun κ ω A ad => ?_)
  change GG mu_X5_firstBits κ ω A (QR κ ω A ad (some (.int res)) (w_X5_firstBits c_board_places c_board_likes c_board_wishes u_most u_tight u_board_askers u_board_age)) ad 0 0 0 (w_X5_firstBits c_board_places c_board_likes c_board_wishes u_most u_tight u_board_askers u_board_age) [some (.ref 0), some (.int a1), none, none] []
  refine G_iconst 0 dX5_firstBits_0 (by decide) ?_
  refine G_istore_n dX5_firstBits_1 rfl (ltb rfl) ?_
  change GG _ _ _ _ _ _ _ _ _ _ [some (.ref 0), some (.int a1), some (.int 0), none] _
  refine G_iconst 0 dX5_firstBits_2 (by decide) ?_
  refine G_istore_n dX5_firstBits_3 rfl (ltb rfl) ?_
  change GG _ _ _ _ _ _ _ _ _ _ [some (.ref 0), some (.int a1), some (.int 0), some (.int 0)] _
  exact g_X5_firstBits_4 N hf
set_option maxRecDepth 20000 in
theorem dX5_weighCover_0 : decode cX5_weighCover 0 = .ok (.iconst 0, 1) := by decide +kernel
set_option maxRecDepth 20000 in
theorem dX5_weighCover_1 : decode cX5_weighCover 1 = .ok (.istore_n 2, 1) := by decide +kernel
set_option maxRecDepth 20000 in
theorem dX5_weighCover_2 : decode cX5_weighCover 2 = .ok (.iconst 0, 1) := by decide +kernel
set_option maxRecDepth 20000 in
theorem dX5_weighCover_3 : decode cX5_weighCover 3 = .ok (.istore_n 3, 1) := by decide +kernel
set_option maxRecDepth 20000 in
theorem dX5_weighCover_4 : decode cX5_weighCover 4 = .ok (.iload_n 3, 1) := by decide +kernel
set_option maxRecDepth 20000 in
theorem dX5_weighCover_5 : decode cX5_weighCover 5 = .ok (.aload_n 0, 1) := by decide +kernel
set_option maxRecDepth 20000 in
theorem dX5_weighCover_6 : decode cX5_weighCover 6 = .ok (.getfield 9, 3) := by decide +kernel
set_option maxRecDepth 20000 in
theorem dX5_weighCover_9 : decode cX5_weighCover 9 = .ok (.getfield 35, 3) := by decide +kernel
set_option maxRecDepth 20000 in
theorem dX5_weighCover_12 : decode cX5_weighCover 12 = .ok (.if_icmp .ge 30, 3) := by decide +kernel
set_option maxRecDepth 20000 in
theorem dX5_weighCover_15 : decode cX5_weighCover 15 = .ok (.iload_n 1, 1) := by decide +kernel
set_option maxRecDepth 20000 in
theorem dX5_weighCover_16 : decode cX5_weighCover 16 = .ok (.iload_n 3, 1) := by decide +kernel
set_option maxRecDepth 20000 in
theorem dX5_weighCover_17 : decode cX5_weighCover 17 = .ok (.ishr, 1) := by decide +kernel
set_option maxRecDepth 20000 in
theorem dX5_weighCover_18 : decode cX5_weighCover 18 = .ok (.iconst 1, 1) := by decide +kernel
set_option maxRecDepth 20000 in
theorem dX5_weighCover_19 : decode cX5_weighCover 19 = .ok (.iand, 1) := by decide +kernel
set_option maxRecDepth 20000 in
theorem dX5_weighCover_20 : decode cX5_weighCover 20 = .ok (.iconst 1, 1) := by decide +kernel
set_option maxRecDepth 20000 in
theorem dX5_weighCover_21 : decode cX5_weighCover 21 = .ok (.if_icmp .ne 15, 3) := by decide +kernel
set_option maxRecDepth 20000 in
theorem dX5_weighCover_24 : decode cX5_weighCover 24 = .ok (.iload_n 2, 1) := by decide +kernel
set_option maxRecDepth 20000 in
theorem dX5_weighCover_25 : decode cX5_weighCover 25 = .ok (.aload_n 0, 1) := by decide +kernel
set_option maxRecDepth 20000 in
theorem dX5_weighCover_26 : decode cX5_weighCover 26 = .ok (.getfield 9, 3) := by decide +kernel
set_option maxRecDepth 20000 in
theorem dX5_weighCover_29 : decode cX5_weighCover 29 = .ok (.getfield 49, 3) := by decide +kernel
set_option maxRecDepth 20000 in
theorem dX5_weighCover_32 : decode cX5_weighCover 32 = .ok (.iload_n 3, 1) := by decide +kernel
set_option maxRecDepth 20000 in
theorem dX5_weighCover_33 : decode cX5_weighCover 33 = .ok (.iaload, 1) := by decide +kernel
set_option maxRecDepth 20000 in
theorem dX5_weighCover_34 : decode cX5_weighCover 34 = .ok (.iadd, 1) := by decide +kernel
set_option maxRecDepth 20000 in
theorem dX5_weighCover_35 : decode cX5_weighCover 35 = .ok (.istore_n 2, 1) := by decide +kernel
set_option maxRecDepth 20000 in
theorem dX5_weighCover_36 : decode cX5_weighCover 36 = .ok (.iinc 3 1, 3) := by decide +kernel
set_option maxRecDepth 20000 in
theorem dX5_weighCover_39 : decode cX5_weighCover 39 = .ok (.goto (-35), 3) := by decide +kernel
set_option maxRecDepth 20000 in
theorem dX5_weighCover_42 : decode cX5_weighCover 42 = .ok (.iconst 0, 1) := by decide +kernel
set_option maxRecDepth 20000 in
theorem dX5_weighCover_43 : decode cX5_weighCover 43 = .ok (.istore_n 3, 1) := by decide +kernel
set_option maxRecDepth 20000 in
theorem dX5_weighCover_44 : decode cX5_weighCover 44 = .ok (.iload_n 3, 1) := by decide +kernel
set_option maxRecDepth 20000 in
theorem dX5_weighCover_45 : decode cX5_weighCover 45 = .ok (.aload_n 0, 1) := by decide +kernel
set_option maxRecDepth 20000 in
theorem dX5_weighCover_46 : decode cX5_weighCover 46 = .ok (.getfield 9, 3) := by decide +kernel
set_option maxRecDepth 20000 in
theorem dX5_weighCover_49 : decode cX5_weighCover 49 = .ok (.getfield 19, 3) := by decide +kernel
set_option maxRecDepth 20000 in
theorem dX5_weighCover_52 : decode cX5_weighCover 52 = .ok (.if_icmp .ge 25, 3) := by decide +kernel
set_option maxRecDepth 20000 in
theorem dX5_weighCover_55 : decode cX5_weighCover 55 = .ok (.aload_n 0, 1) := by decide +kernel
set_option maxRecDepth 20000 in
theorem dX5_weighCover_56 : decode cX5_weighCover 56 = .ok (.getfield 15, 3) := by decide +kernel
set_option maxRecDepth 20000 in
theorem dX5_weighCover_59 : decode cX5_weighCover 59 = .ok (.iload_n 3, 1) := by decide +kernel
set_option maxRecDepth 20000 in
theorem dX5_weighCover_60 : decode cX5_weighCover 60 = .ok (.iaload, 1) := by decide +kernel
set_option maxRecDepth 20000 in
theorem dX5_weighCover_61 : decode cX5_weighCover 61 = .ok (.iload_n 1, 1) := by decide +kernel
set_option maxRecDepth 20000 in
theorem dX5_weighCover_62 : decode cX5_weighCover 62 = .ok (.iconst (-1), 1) := by decide +kernel
set_option maxRecDepth 20000 in
theorem dX5_weighCover_63 : decode cX5_weighCover 63 = .ok (.ixor, 1) := by decide +kernel
set_option maxRecDepth 20000 in
theorem dX5_weighCover_64 : decode cX5_weighCover 64 = .ok (.iand, 1) := by decide +kernel
set_option maxRecDepth 20000 in
theorem dX5_weighCover_65 : decode cX5_weighCover 65 = .ok (.ifCond .eq 6, 3) := by decide +kernel
set_option maxRecDepth 20000 in
theorem dX5_weighCover_68 : decode cX5_weighCover 68 = .ok (.iinc 2 1, 3) := by decide +kernel
set_option maxRecDepth 20000 in
theorem dX5_weighCover_71 : decode cX5_weighCover 71 = .ok (.iinc 3 1, 3) := by decide +kernel
set_option maxRecDepth 20000 in
theorem dX5_weighCover_74 : decode cX5_weighCover 74 = .ok (.goto (-30), 3) := by decide +kernel
set_option maxRecDepth 20000 in
theorem dX5_weighCover_77 : decode cX5_weighCover 77 = .ok (.iload_n 2, 1) := by decide +kernel
set_option maxRecDepth 20000 in
theorem dX5_weighCover_78 : decode cX5_weighCover 78 = .ok (.aload_n 0, 1) := by decide +kernel
set_option maxRecDepth 20000 in
theorem dX5_weighCover_79 : decode cX5_weighCover 79 = .ok (.getfield 29, 3) := by decide +kernel
set_option maxRecDepth 20000 in
theorem dX5_weighCover_82 : decode cX5_weighCover 82 = .ok (.if_icmp .ge 16, 3) := by decide +kernel
set_option maxRecDepth 20000 in
theorem dX5_weighCover_85 : decode cX5_weighCover 85 = .ok (.aload_n 0, 1) := by decide +kernel
set_option maxRecDepth 20000 in
theorem dX5_weighCover_86 : decode cX5_weighCover 86 = .ok (.iload_n 2, 1) := by decide +kernel
set_option maxRecDepth 20000 in
theorem dX5_weighCover_87 : decode cX5_weighCover 87 = .ok (.putfield 29, 3) := by decide +kernel
set_option maxRecDepth 20000 in
theorem dX5_weighCover_90 : decode cX5_weighCover 90 = .ok (.aload_n 0, 1) := by decide +kernel
set_option maxRecDepth 20000 in
theorem dX5_weighCover_91 : decode cX5_weighCover 91 = .ok (.iload_n 1, 1) := by decide +kernel
set_option maxRecDepth 20000 in
theorem dX5_weighCover_92 : decode cX5_weighCover 92 = .ok (.putfield 32, 3) := by decide +kernel
set_option maxRecDepth 20000 in
theorem dX5_weighCover_95 : decode cX5_weighCover 95 = .ok (.goto 21, 3) := by decide +kernel
set_option maxRecDepth 20000 in
theorem dX5_weighCover_98 : decode cX5_weighCover 98 = .ok (.iload_n 2, 1) := by decide +kernel
set_option maxRecDepth 20000 in
theorem dX5_weighCover_99 : decode cX5_weighCover 99 = .ok (.aload_n 0, 1) := by decide +kernel
set_option maxRecDepth 20000 in
theorem dX5_weighCover_100 : decode cX5_weighCover 100 = .ok (.getfield 29, 3) := by decide +kernel
set_option maxRecDepth 20000 in
theorem dX5_weighCover_103 : decode cX5_weighCover 103 = .ok (.if_icmp .ne 13, 3) := by decide +kernel
set_option maxRecDepth 20000 in
theorem dX5_weighCover_106 : decode cX5_weighCover 106 = .ok (.aload_n 0, 1) := by decide +kernel
set_option maxRecDepth 20000 in
theorem dX5_weighCover_107 : decode cX5_weighCover 107 = .ok (.dup, 1) := by decide +kernel
set_option maxRecDepth 20000 in
theorem dX5_weighCover_108 : decode cX5_weighCover 108 = .ok (.getfield 32, 3) := by decide +kernel
set_option maxRecDepth 20000 in
theorem dX5_weighCover_111 : decode cX5_weighCover 111 = .ok (.iload_n 1, 1) := by decide +kernel
set_option maxRecDepth 20000 in
theorem dX5_weighCover_112 : decode cX5_weighCover 112 = .ok (.ior, 1) := by decide +kernel
set_option maxRecDepth 20000 in
theorem dX5_weighCover_113 : decode cX5_weighCover 113 = .ok (.putfield 32, 3) := by decide +kernel
set_option maxRecDepth 20000 in
theorem dX5_weighCover_116 : decode cX5_weighCover 116 = .ok (.return_, 1) := by decide +kernel
def f_X5_weighCover_44 (N : Nat) (c_board_askers : Int32) (c_board_places : Int32) (c_firsts : Nat → Int32) (c_board_seats : Nat → Int32) : Nat → Int32 → Int32 → Int32 → Int32 → Int32 → Option (Int32 × Int32)
  | 0, _, _, _, _, _ => none
  | n + 1, c_most, c_tight, v1, v2, v3 =>
    (if c_board_askers ≤ v3 then
      (if c_most ≤ v2 then
        (if v2 = c_most then
          some (c_most, c_tight ||| v1)
        else
          some (c_most, c_tight))
      else
        some (v2, v1))
    else
      (rdI 8 c_firsts v3).bind fun t4 =>
      (if (t4 &&& (v1 ^^^ (-1 : Int32))) = 0 then
        f_X5_weighCover_44 N c_board_askers c_board_places c_firsts c_board_seats n c_most c_tight v1 v2 (v3 + 1)
      else
        f_X5_weighCover_44 N c_board_askers c_board_places c_firsts c_board_seats n c_most c_tight v1 (v2 + 1) (v3 + 1)))
set_option maxHeartbeats 4000000 in
set_option maxRecDepth 100000 in
theorem g_X5_weighCover_44 {κ : KC} {ω : KW} {A : Nat → Prop} {ad : Nat → Nat} {u_board_age : Int32} {N : Nat} {c_board_askers : Int32} {c_board_places : Int32} {c_firsts : Nat → Int32} {c_board_seats : Nat → Int32}  {res : Int32 × Int32} : ∀ (n : Nat) {c_most : Int32} {c_tight : Int32} {v1 : Int32} {v2 : Int32} {v3 : Int32}, f_X5_weighCover_44 N c_board_askers c_board_places c_firsts c_board_seats n c_most c_tight v1 v2 v3 = some res → GG mu_X5_weighCover κ ω A (QR κ ω A ad (none) (w_X5_weighCover res.1 res.2 c_board_askers c_board_places c_firsts c_board_seats u_board_age)) ad 0 0 44 (w_X5_weighCover c_most c_tight c_board_askers c_board_places c_firsts c_board_seats u_board_age) [some (.ref 0), some (.int v1), some (.int v2), some (.int v3)] [] := by
  intro n
  induction n with
  | zero => intro c_most c_tight v1 v2 v3 hf; exact ob_0 hf
  | succ n ih =>
    intro c_most c_tight v1 v2 v3 hf
    refine G_iload_n dX5_weighCover_44 rfl rfl ?_
    refine G_aload_n dX5_weighCover_45 rfl rfl ?_
    refine G_get (v := .ref 1) F_X5_9 dX5_weighCover_46 rfl rfl ?_
    refine G_get (v := .int c_board_askers) F_X5_19 dX5_weighCover_49 rfl rfl ?_
    refine G_icmp_ge 77 dX5_weighCover_52 (by decide) (fun h1 => ?_) (fun h1 => ?_)
    · replace hf := ob_t h1 hf
      refine G_iload_n dX5_weighCover_77 rfl rfl ?_
      refine G_aload_n dX5_weighCover_78 rfl rfl ?_
      refine G_get (v := .int c_most) F_X5_29 dX5_weighCover_79 rfl rfl ?_
      refine G_icmp_ge 98 dX5_weighCover_82 (by decide) (fun h2 => ?_) (fun h2 => ?_)
      · replace hf := ob_t h2 hf
        refine G_iload_n dX5_weighCover_98 rfl rfl ?_
        refine G_aload_n dX5_weighCover_99 rfl rfl ?_
        refine G_get (v := .int c_most) F_X5_29 dX5_weighCover_100 rfl rfl ?_
        refine G_icmp_ne 116 dX5_weighCover_103 (by decide) (fun h3 => ?_) (fun h3 => ?_)
        · replace hf := ob_f h3 hf
          obtain rfl := os hf
          exact G_return dX5_weighCover_116 rfl
        · replace hf := ob_t h3 hf
          refine G_aload_n dX5_weighCover_106 rfl rfl ?_
          refine G_dup dX5_weighCover_107 rfl ?_
          refine G_get (v := .int c_tight) F_X5_32 dX5_weighCover_108 rfl rfl ?_
          refine G_iload_n dX5_weighCover_111 rfl rfl ?_
          refine G_ior dX5_weighCover_112 ?_
          refine G_put (w2 := (w_X5_weighCover c_most (c_tight ||| v1) c_board_askers c_board_places c_firsts c_board_seats u_board_age)) F_X5_32 dX5_weighCover_113 rfl rfl rfl (ltb rfl) rfl ?_
          obtain rfl := os hf
          exact G_return dX5_weighCover_116 rfl
      · replace hf := ob_f h2 hf
        refine G_aload_n dX5_weighCover_85 rfl rfl ?_
        refine G_iload_n dX5_weighCover_86 rfl rfl ?_
        refine G_put (w2 := (w_X5_weighCover v2 c_tight c_board_askers c_board_places c_firsts c_board_seats u_board_age)) F_X5_29 dX5_weighCover_87 rfl rfl rfl (ltb rfl) rfl ?_
        refine G_aload_n dX5_weighCover_90 rfl rfl ?_
        refine G_iload_n dX5_weighCover_91 rfl rfl ?_
        refine G_put (w2 := (w_X5_weighCover v2 v1 c_board_askers c_board_places c_firsts c_board_seats u_board_age)) F_X5_32 dX5_weighCover_92 rfl rfl rfl (ltb rfl) rfl ?_
        refine G_goto 116 dX5_weighCover_95 (by decide) ?_
        obtain rfl := os hf
        exact G_return dX5_weighCover_116 rfl
    · replace hf := ob_f h1 hf
      refine G_aload_n dX5_weighCover_55 rfl rfl ?_
      refine G_get (v := .ref 2) F_X5_15 dX5_weighCover_56 rfl rfl ?_
      refine G_iload_n dX5_weighCover_59 rfl rfl ?_
      obtain ⟨t4, ht4, hf⟩ := ob hf
      refine G_iald dX5_weighCover_60 rfl ht4 ?_
      refine G_iload_n dX5_weighCover_61 rfl rfl ?_
      refine G_iconst (-1 : Int32) dX5_weighCover_62 (by decide) ?_
      refine G_ixor dX5_weighCover_63 ?_
      refine G_iand dX5_weighCover_64 ?_
      refine G_if_eq 71 dX5_weighCover_65 (by decide) (fun h5 => ?_) (fun h5 => ?_)
      · replace hf := ob_t h5 hf
        refine G_iinc 1 dX5_weighCover_71 (by decide) rfl (ltb rfl) ?_
        change GG _ _ _ _ _ _ _ _ _ _ [some (.ref 0), some (.int v1), some (.int v2), some (.int (v3 + 1))] _
        refine G_goto 44 dX5_weighCover_74 (by decide) ?_
        exact ih hf
      · replace hf := ob_f h5 hf
        refine G_iinc 1 dX5_weighCover_68 (by decide) rfl (ltb rfl) ?_
        change GG _ _ _ _ _ _ _ _ _ _ [some (.ref 0), some (.int v1), some (.int (v2 + 1)), some (.int v3)] _
        refine G_iinc 1 dX5_weighCover_71 (by decide) rfl (ltb rfl) ?_
        change GG _ _ _ _ _ _ _ _ _ _ [some (.ref 0), some (.int v1), some (.int (v2 + 1)), some (.int (v3 + 1))] _
        refine G_goto 44 dX5_weighCover_74 (by decide) ?_
        exact ih hf
def f_X5_weighCover_4 (N : Nat) (c_board_askers : Int32) (c_board_places : Int32) (c_firsts : Nat → Int32) (c_board_seats : Nat → Int32) : Nat → Int32 → Int32 → Int32 → Int32 → Int32 → Option (Int32 × Int32)
  | 0, _, _, _, _, _ => none
  | n + 1, c_most, c_tight, v1, v2, v3 =>
    (if c_board_places ≤ v3 then
      f_X5_weighCover_44 N c_board_askers c_board_places c_firsts c_board_seats N c_most c_tight v1 v2 0
    else
      (if ((v1 >>> (v3 &&& 31)) &&& (1 : Int32)) = 1 then
        (rdI 6 c_board_seats v3).bind fun t3 =>
        f_X5_weighCover_4 N c_board_askers c_board_places c_firsts c_board_seats n c_most c_tight v1 (v2 + t3) (v3 + 1)
      else
        f_X5_weighCover_4 N c_board_askers c_board_places c_firsts c_board_seats n c_most c_tight v1 v2 (v3 + 1)))
set_option maxHeartbeats 4000000 in
set_option maxRecDepth 100000 in
theorem g_X5_weighCover_4 {κ : KC} {ω : KW} {A : Nat → Prop} {ad : Nat → Nat} {u_board_age : Int32} {N : Nat} {c_board_askers : Int32} {c_board_places : Int32} {c_firsts : Nat → Int32} {c_board_seats : Nat → Int32}  {res : Int32 × Int32} : ∀ (n : Nat) {c_most : Int32} {c_tight : Int32} {v1 : Int32} {v2 : Int32} {v3 : Int32}, f_X5_weighCover_4 N c_board_askers c_board_places c_firsts c_board_seats n c_most c_tight v1 v2 v3 = some res → GG mu_X5_weighCover κ ω A (QR κ ω A ad (none) (w_X5_weighCover res.1 res.2 c_board_askers c_board_places c_firsts c_board_seats u_board_age)) ad 0 0 4 (w_X5_weighCover c_most c_tight c_board_askers c_board_places c_firsts c_board_seats u_board_age) [some (.ref 0), some (.int v1), some (.int v2), some (.int v3)] [] := by
  intro n
  induction n with
  | zero => intro c_most c_tight v1 v2 v3 hf; exact ob_0 hf
  | succ n ih =>
    intro c_most c_tight v1 v2 v3 hf
    refine G_iload_n dX5_weighCover_4 rfl rfl ?_
    refine G_aload_n dX5_weighCover_5 rfl rfl ?_
    refine G_get (v := .ref 1) F_X5_9 dX5_weighCover_6 rfl rfl ?_
    refine G_get (v := .int c_board_places) F_X5_35 dX5_weighCover_9 rfl rfl ?_
    refine G_icmp_ge 42 dX5_weighCover_12 (by decide) (fun h1 => ?_) (fun h1 => ?_)
    · replace hf := ob_t h1 hf
      refine G_iconst 0 dX5_weighCover_42 (by decide) ?_
      refine G_istore_n dX5_weighCover_43 rfl (ltb rfl) ?_
      change GG _ _ _ _ _ _ _ _ _ _ [some (.ref 0), some (.int v1), some (.int v2), some (.int 0)] _
      exact g_X5_weighCover_44 N hf
    · replace hf := ob_f h1 hf
      refine G_iload_n dX5_weighCover_15 rfl rfl ?_
      refine G_iload_n dX5_weighCover_16 rfl rfl ?_
      refine G_ishr dX5_weighCover_17 ?_
      refine G_iconst 1 dX5_weighCover_18 (by decide) ?_
      refine G_iand dX5_weighCover_19 ?_
      refine G_iconst 1 dX5_weighCover_20 (by decide) ?_
      refine G_icmp_ne 36 dX5_weighCover_21 (by decide) (fun h2 => ?_) (fun h2 => ?_)
      · replace hf := ob_f h2 hf
        refine G_iinc 1 dX5_weighCover_36 (by decide) rfl (ltb rfl) ?_
        change GG _ _ _ _ _ _ _ _ _ _ [some (.ref 0), some (.int v1), some (.int v2), some (.int (v3 + 1))] _
        refine G_goto 4 dX5_weighCover_39 (by decide) ?_
        exact ih hf
      · replace hf := ob_t h2 hf
        refine G_iload_n dX5_weighCover_24 rfl rfl ?_
        refine G_aload_n dX5_weighCover_25 rfl rfl ?_
        refine G_get (v := .ref 1) F_X5_9 dX5_weighCover_26 rfl rfl ?_
        refine G_get (v := .ref 3) F_X5_49 dX5_weighCover_29 rfl rfl ?_
        refine G_iload_n dX5_weighCover_32 rfl rfl ?_
        obtain ⟨t3, ht3, hf⟩ := ob hf
        refine G_iald dX5_weighCover_33 rfl ht3 ?_
        refine G_iadd dX5_weighCover_34 ?_
        refine G_istore_n dX5_weighCover_35 rfl (ltb rfl) ?_
        change GG _ _ _ _ _ _ _ _ _ _ [some (.ref 0), some (.int v1), some (.int (v2 + t3)), some (.int v3)] _
        refine G_iinc 1 dX5_weighCover_36 (by decide) rfl (ltb rfl) ?_
        change GG _ _ _ _ _ _ _ _ _ _ [some (.ref 0), some (.int v1), some (.int (v2 + t3)), some (.int (v3 + 1))] _
        refine G_goto 4 dX5_weighCover_39 (by decide) ?_
        exact ih hf
def f_X5_weighCover (N : Nat) (c_board_askers : Int32) (c_board_places : Int32) (c_firsts : Nat → Int32) (c_board_seats : Nat → Int32) (c_most : Int32) (c_tight : Int32) (a1 : Int32) : Option (Int32 × Int32) :=
  f_X5_weighCover_4 N c_board_askers c_board_places c_firsts c_board_seats N c_most c_tight a1 0 0
set_option maxHeartbeats 4000000 in
set_option maxRecDepth 100000 in
theorem c_X5_weighCover {N : Nat} {c_board_askers : Int32} {c_board_places : Int32} {c_firsts : Nat → Int32} {c_board_seats : Nat → Int32} {c_most : Int32} {c_tight : Int32} {u_board_age : Int32} {a1 : Int32} {res : Int32 × Int32} (hf : f_X5_weighCover N c_board_askers c_board_places c_firsts c_board_seats c_most c_tight a1 = some res) : Con mu_X5_weighCover [.ref 0, .int a1] (w_X5_weighCover c_most c_tight c_board_askers c_board_places c_firsts c_board_seats u_board_age) (none) (w_X5_weighCover res.1 res.2 c_board_askers c_board_places c_firsts c_board_seats u_board_age) := by
  refine Con.mk (show plainName RX5 = true by decide +kernel) (leb rfl) (fun κ ω A ad => ?_)
  change GG mu_X5_weighCover κ ω A (QR κ ω A ad (none) (w_X5_weighCover res.1 res.2 c_board_askers c_board_places c_firsts c_board_seats u_board_age)) ad 0 0 0 (w_X5_weighCover c_most c_tight c_board_askers c_board_places c_firsts c_board_seats u_board_age) [some (.ref 0), some (.int a1), none, none] []
  refine G_iconst 0 dX5_weighCover_0 (by decide) ?_
  refine G_istore_n dX5_weighCover_1 rfl (ltb rfl) ?_
  change GG _ _ _ _ _ _ _ _ _ _ [some (.ref 0), some (.int a1), some (.int 0), none] _
  refine G_iconst 0 dX5_weighCover_2 (by decide) ?_
  refine G_istore_n dX5_weighCover_3 rfl (ltb rfl) ?_
  change GG _ _ _ _ _ _ _ _ _ _ [some (.ref 0), some (.int a1), some (.int 0), some (.int 0)] _
  exact g_X5_weighCover_4 N hf
set_option maxRecDepth 20000 in
theorem dX5_learn_0 : decode cX5_learn 0 = .ok (.iconst 0, 1) := by decide +kernel
set_option maxRecDepth 20000 in
theorem dX5_learn_1 : decode cX5_learn 1 = .ok (.istore_n 1, 1) := by decide +kernel
set_option maxRecDepth 20000 in
theorem dX5_learn_2 : decode cX5_learn 2 = .ok (.iload_n 1, 1) := by decide +kernel
set_option maxRecDepth 20000 in
theorem dX5_learn_3 : decode cX5_learn 3 = .ok (.aload_n 0, 1) := by decide +kernel
set_option maxRecDepth 20000 in
theorem dX5_learn_4 : decode cX5_learn 4 = .ok (.getfield 9, 3) := by decide +kernel
set_option maxRecDepth 20000 in
theorem dX5_learn_7 : decode cX5_learn 7 = .ok (.getfield 19, 3) := by decide +kernel
set_option maxRecDepth 20000 in
theorem dX5_learn_10 : decode cX5_learn 10 = .ok (.if_icmp .ge 20, 3) := by decide +kernel
set_option maxRecDepth 20000 in
theorem dX5_learn_13 : decode cX5_learn 13 = .ok (.aload_n 0, 1) := by decide +kernel
set_option maxRecDepth 20000 in
theorem dX5_learn_14 : decode cX5_learn 14 = .ok (.getfield 15, 3) := by decide +kernel
set_option maxRecDepth 20000 in
theorem dX5_learn_17 : decode cX5_learn 17 = .ok (.iload_n 1, 1) := by decide +kernel
set_option maxRecDepth 20000 in
theorem dX5_learn_18 : decode cX5_learn 18 = .ok (.aload_n 0, 1) := by decide +kernel
set_option maxRecDepth 20000 in
theorem dX5_learn_19 : decode cX5_learn 19 = .ok (.iload_n 1, 1) := by decide +kernel
set_option maxRecDepth 20000 in
theorem dX5_learn_20 : decode cX5_learn 20 = .ok (.invokevirtual 25, 3) := by decide +kernel
set_option maxRecDepth 20000 in
theorem dX5_learn_23 : decode cX5_learn 23 = .ok (.iastore, 1) := by decide +kernel
set_option maxRecDepth 20000 in
theorem dX5_learn_24 : decode cX5_learn 24 = .ok (.iinc 1 1, 3) := by decide +kernel
set_option maxRecDepth 20000 in
theorem dX5_learn_27 : decode cX5_learn 27 = .ok (.goto (-25), 3) := by decide +kernel
set_option maxRecDepth 20000 in
theorem dX5_learn_30 : decode cX5_learn 30 = .ok (.aload_n 0, 1) := by decide +kernel
set_option maxRecDepth 20000 in
theorem dX5_learn_31 : decode cX5_learn 31 = .ok (.aload_n 0, 1) := by decide +kernel
set_option maxRecDepth 20000 in
theorem dX5_learn_32 : decode cX5_learn 32 = .ok (.getfield 9, 3) := by decide +kernel
set_option maxRecDepth 20000 in
theorem dX5_learn_35 : decode cX5_learn 35 = .ok (.getfield 19, 3) := by decide +kernel
set_option maxRecDepth 20000 in
theorem dX5_learn_38 : decode cX5_learn 38 = .ok (.putfield 29, 3) := by decide +kernel
set_option maxRecDepth 20000 in
theorem dX5_learn_41 : decode cX5_learn 41 = .ok (.aload_n 0, 1) := by decide +kernel
set_option maxRecDepth 20000 in
theorem dX5_learn_42 : decode cX5_learn 42 = .ok (.iconst 0, 1) := by decide +kernel
set_option maxRecDepth 20000 in
theorem dX5_learn_43 : decode cX5_learn 43 = .ok (.putfield 32, 3) := by decide +kernel
set_option maxRecDepth 20000 in
theorem dX5_learn_46 : decode cX5_learn 46 = .ok (.iconst 0, 1) := by decide +kernel
set_option maxRecDepth 20000 in
theorem dX5_learn_47 : decode cX5_learn 47 = .ok (.istore_n 1, 1) := by decide +kernel
set_option maxRecDepth 20000 in
theorem dX5_learn_48 : decode cX5_learn 48 = .ok (.iload_n 1, 1) := by decide +kernel
set_option maxRecDepth 20000 in
theorem dX5_learn_49 : decode cX5_learn 49 = .ok (.iconst 1, 1) := by decide +kernel
set_option maxRecDepth 20000 in
theorem dX5_learn_50 : decode cX5_learn 50 = .ok (.aload_n 0, 1) := by decide +kernel
set_option maxRecDepth 20000 in
theorem dX5_learn_51 : decode cX5_learn 51 = .ok (.getfield 9, 3) := by decide +kernel
set_option maxRecDepth 20000 in
theorem dX5_learn_54 : decode cX5_learn 54 = .ok (.getfield 35, 3) := by decide +kernel
set_option maxRecDepth 20000 in
theorem dX5_learn_57 : decode cX5_learn 57 = .ok (.ishl, 1) := by decide +kernel
set_option maxRecDepth 20000 in
theorem dX5_learn_58 : decode cX5_learn 58 = .ok (.if_icmp .ge 14, 3) := by decide +kernel
set_option maxRecDepth 20000 in
theorem dX5_learn_61 : decode cX5_learn 61 = .ok (.aload_n 0, 1) := by decide +kernel
set_option maxRecDepth 20000 in
theorem dX5_learn_62 : decode cX5_learn 62 = .ok (.iload_n 1, 1) := by decide +kernel
set_option maxRecDepth 20000 in
theorem dX5_learn_63 : decode cX5_learn 63 = .ok (.invokevirtual 38, 3) := by decide +kernel
set_option maxRecDepth 20000 in
theorem dX5_learn_66 : decode cX5_learn 66 = .ok (.iinc 1 1, 3) := by decide +kernel
set_option maxRecDepth 20000 in
theorem dX5_learn_69 : decode cX5_learn 69 = .ok (.goto (-21), 3) := by decide +kernel
set_option maxRecDepth 20000 in
theorem dX5_learn_72 : decode cX5_learn 72 = .ok (.return_, 1) := by decide +kernel
def f_X5_learn_48 (N : Nat) (c_board_askers : Int32) (c_board_places : Int32) (c_board_likes : Nat → Int32) (c_board_seats : Nat → Int32) (c_board_wishes : Nat → Int32) : Nat → Int32 → Int32 → (Nat → Int32) → Int32 → Option (Int32 × Int32 × (Nat → Int32))
  | 0, _, _, _, _ => none
  | n + 1, c_most, c_tight, c_firsts, v1 =>
    (if ((1 : Int32) <<< (c_board_places &&& 31)) ≤ v1 then
      some (c_most, c_tight, c_firsts)
    else
      (f_X5_weighCover N c_board_askers c_board_places c_firsts c_board_seats c_most c_tight v1).bind fun (o2, o3) =>
      f_X5_learn_48 N c_board_askers c_board_places c_board_likes c_board_seats c_board_wishes n o2 o3 c_firsts (v1 + 1))
set_option maxHeartbeats 4000000 in
set_option maxRecDepth 100000 in
theorem g_X5_learn_48 {κ : KC} {ω : KW} {A : Nat → Prop} {ad : Nat → Nat} {u_board_age : Int32} {N : Nat} {c_board_askers : Int32} {c_board_places : Int32} {c_board_likes : Nat → Int32} {c_board_seats : Nat → Int32} {c_board_wishes : Nat → Int32}  {res : Int32 × Int32 × (Nat → Int32)} : ∀ (n : Nat) {c_most : Int32} {c_tight : Int32} {c_firsts : Nat → Int32} {v1 : Int32}, f_X5_learn_48 N c_board_askers c_board_places c_board_likes c_board_seats c_board_wishes n c_most c_tight c_firsts v1 = some res → GG mu_X5_learn κ ω A (QR κ ω A ad (none) (w_X5_learn res.1 res.2.1 c_board_askers c_board_places res.2.2 c_board_likes c_board_seats c_board_wishes u_board_age)) ad 0 0 48 (w_X5_learn c_most c_tight c_board_askers c_board_places c_firsts c_board_likes c_board_seats c_board_wishes u_board_age) [some (.ref 0), some (.int v1)] [] := by
  intro n
  induction n with
  | zero => intro c_most c_tight c_firsts v1 hf; exact ob_0 hf
  | succ n ih =>
    intro c_most c_tight c_firsts v1 hf
    refine G_iload_n dX5_learn_48 rfl rfl ?_
    refine G_iconst 1 dX5_learn_49 (by decide) ?_
    refine G_aload_n dX5_learn_50 rfl rfl ?_
    refine G_get (v := .ref 1) F_X5_9 dX5_learn_51 rfl rfl ?_
    refine G_get (v := .int c_board_places) F_X5_35 dX5_learn_54 rfl rfl ?_
    refine G_ishl dX5_learn_57 ?_
    refine G_icmp_ge 72 dX5_learn_58 (by decide) (fun h1 => ?_) (fun h1 => ?_)
    · replace hf := ob_t h1 hf
      obtain rfl := os hf
      exact G_return dX5_learn_72 rfl
    · replace hf := ob_f h1 hf
      refine G_aload_n dX5_learn_61 rfl rfl ?_
      refine G_iload_n dX5_learn_62 rfl rfl ?_
      obtain ⟨⟨o2, o3⟩, hc4, hf⟩ := ob hf
      refine G_callV (μ2 := mu_X5_weighCover) (As := [.int v1]) (w2 := (w_X5_learn o2 o3 c_board_askers c_board_places c_firsts c_board_likes c_board_seats c_board_wishes u_board_age)) (wc := (w_X5_weighCover c_most c_tight c_board_askers c_board_places c_firsts c_board_seats u_board_age)) (wc2 := (w_X5_weighCover o2 o3 c_board_askers c_board_places c_firsts c_board_seats u_board_age)) (rest := []) (rv := []) [0, 1, 2, 4] [5, 3, 1000] [3, 5] [2, 3, 4, 0, 5, 1] (c_X5_weighCover hc4) cw_X5_weighCover m_X5_38 dX5_learn_63 rfl ⟨leb rfl, leb rfl⟩ ⟨rfl, rfl⟩ rfl ⟨_, rfl, rfl⟩ (Fit.mk rfl rfl rfl) rfl (leb rfl) (ROsub.nil rfl rfl) rfl ?_
      change GG _ _ _ _ _ _ _ _ _ (w_X5_learn o2 o3 c_board_askers c_board_places c_firsts c_board_likes c_board_seats c_board_wishes u_board_age) [some (.ref 0), some (.int v1)] []
      refine G_iinc 1 dX5_learn_66 (by decide) rfl (ltb rfl) ?_
      change GG _ _ _ _ _ _ _ _ _ _ [some (.ref 0), some (.int (v1 + 1))] _
      refine G_goto 48 dX5_learn_69 (by decide) ?_
      exact ih hf
def f_X5_learn_2 (N : Nat) (c_board_askers : Int32) (c_board_places : Int32) (c_board_likes : Nat → Int32) (c_board_seats : Nat → Int32) (c_board_wishes : Nat → Int32) : Nat → Int32 → Int32 → (Nat → Int32) → Int32 → Option (Int32 × Int32 × (Nat → Int32))
  | 0, _, _, _, _ => none
  | n + 1, c_most, c_tight, c_firsts, v1 =>
    (if c_board_askers ≤ v1 then
      f_X5_learn_48 N c_board_askers c_board_places c_board_likes c_board_seats c_board_wishes N c_board_askers 0 c_firsts 0
    else
      (f_X5_firstBits N c_board_places c_board_likes c_board_wishes v1).bind fun r2 =>
      (wrI 8 c_firsts v1 r2).bind fun t4 =>
      f_X5_learn_2 N c_board_askers c_board_places c_board_likes c_board_seats c_board_wishes n c_most c_tight t4 (v1 + 1))
set_option maxHeartbeats 4000000 in
set_option maxRecDepth 100000 in
theorem g_X5_learn_2 {κ : KC} {ω : KW} {A : Nat → Prop} {ad : Nat → Nat} {u_board_age : Int32} {N : Nat} {c_board_askers : Int32} {c_board_places : Int32} {c_board_likes : Nat → Int32} {c_board_seats : Nat → Int32} {c_board_wishes : Nat → Int32}  {res : Int32 × Int32 × (Nat → Int32)} : ∀ (n : Nat) {c_most : Int32} {c_tight : Int32} {c_firsts : Nat → Int32} {v1 : Int32}, f_X5_learn_2 N c_board_askers c_board_places c_board_likes c_board_seats c_board_wishes n c_most c_tight c_firsts v1 = some res → GG mu_X5_learn κ ω A (QR κ ω A ad (none) (w_X5_learn res.1 res.2.1 c_board_askers c_board_places res.2.2 c_board_likes c_board_seats c_board_wishes u_board_age)) ad 0 0 2 (w_X5_learn c_most c_tight c_board_askers c_board_places c_firsts c_board_likes c_board_seats c_board_wishes u_board_age) [some (.ref 0), some (.int v1)] [] := by
  intro n
  induction n with
  | zero => intro c_most c_tight c_firsts v1 hf; exact ob_0 hf
  | succ n ih =>
    intro c_most c_tight c_firsts v1 hf
    refine G_iload_n dX5_learn_2 rfl rfl ?_
    refine G_aload_n dX5_learn_3 rfl rfl ?_
    refine G_get (v := .ref 1) F_X5_9 dX5_learn_4 rfl rfl ?_
    refine G_get (v := .int c_board_askers) F_X5_19 dX5_learn_7 rfl rfl ?_
    refine G_icmp_ge 30 dX5_learn_10 (by decide) (fun h1 => ?_) (fun h1 => ?_)
    · replace hf := ob_t h1 hf
      refine G_aload_n dX5_learn_30 rfl rfl ?_
      refine G_aload_n dX5_learn_31 rfl rfl ?_
      refine G_get (v := .ref 1) F_X5_9 dX5_learn_32 rfl rfl ?_
      refine G_get (v := .int c_board_askers) F_X5_19 dX5_learn_35 rfl rfl ?_
      refine G_put (w2 := (w_X5_learn c_board_askers c_tight c_board_askers c_board_places c_firsts c_board_likes c_board_seats c_board_wishes u_board_age)) F_X5_29 dX5_learn_38 rfl rfl rfl (ltb rfl) rfl ?_
      refine G_aload_n dX5_learn_41 rfl rfl ?_
      refine G_iconst 0 dX5_learn_42 (by decide) ?_
      refine G_put (w2 := (w_X5_learn c_board_askers 0 c_board_askers c_board_places c_firsts c_board_likes c_board_seats c_board_wishes u_board_age)) F_X5_32 dX5_learn_43 rfl rfl rfl (ltb rfl) rfl ?_
      refine G_iconst 0 dX5_learn_46 (by decide) ?_
      refine G_istore_n dX5_learn_47 rfl (ltb rfl) ?_
      change GG _ _ _ _ _ _ _ _ _ _ [some (.ref 0), some (.int 0)] _
      exact g_X5_learn_48 N hf
    · replace hf := ob_f h1 hf
      refine G_aload_n dX5_learn_13 rfl rfl ?_
      refine G_get (v := .ref 2) F_X5_15 dX5_learn_14 rfl rfl ?_
      refine G_iload_n dX5_learn_17 rfl rfl ?_
      refine G_aload_n dX5_learn_18 rfl rfl ?_
      refine G_iload_n dX5_learn_19 rfl rfl ?_
      obtain ⟨r2, hc3, hf⟩ := ob hf
      refine G_callV (μ2 := mu_X5_firstBits) (As := [.int v1]) (w2 := (w_X5_learn c_most c_tight c_board_askers c_board_places c_firsts c_board_likes c_board_seats c_board_wishes u_board_age)) (wc := (w_X5_firstBits c_board_places c_board_likes c_board_wishes c_most c_tight c_board_askers u_board_age)) (wc2 := (w_X5_firstBits c_board_places c_board_likes c_board_wishes c_most c_tight c_board_askers u_board_age)) (rest := [.int v1, .ref 2]) (rv := [.int r2]) [0, 1, 3, 5] [2, 4, 1000] [2, 4] [2, 3, 0, 4, 1, 5] (c_X5_firstBits hc3) cw_X5_firstBits m_X5_25 dX5_learn_20 rfl ⟨leb rfl, leb rfl⟩ ⟨rfl, rfl⟩ rfl ⟨_, rfl, rfl⟩ (Fit.mk rfl rfl rfl) rfl (leb rfl) (ROsub.nil rfl rfl) rfl ?_
      change GG _ _ _ _ _ _ _ _ _ (w_X5_learn c_most c_tight c_board_askers c_board_places c_firsts c_board_likes c_board_seats c_board_wishes u_board_age) [some (.ref 0), some (.int v1)] [.int r2, .int v1, .ref 2]
      obtain ⟨t4, ht4, hf⟩ := ob hf
      refine G_iast (w2 := (w_X5_learn c_most c_tight c_board_askers c_board_places t4 c_board_likes c_board_seats c_board_wishes u_board_age)) dX5_learn_23 rfl ht4 rfl ?_
      refine G_iinc 1 dX5_learn_24 (by decide) rfl (ltb rfl) ?_
      change GG _ _ _ _ _ _ _ _ _ _ [some (.ref 0), some (.int (v1 + 1))] _
      refine G_goto 2 dX5_learn_27 (by decide) ?_
      exact ih hf
def f_X5_learn (N : Nat) (c_board_askers : Int32) (c_board_places : Int32) (c_board_likes : Nat → Int32) (c_board_seats : Nat → Int32) (c_board_wishes : Nat → Int32) (c_most : Int32) (c_tight : Int32) (c_firsts : Nat → Int32)  : Option (Int32 × Int32 × (Nat → Int32)) :=
  f_X5_learn_2 N c_board_askers c_board_places c_board_likes c_board_seats c_board_wishes N c_most c_tight c_firsts 0
set_option maxHeartbeats 4000000 in
set_option maxRecDepth 100000 in
theorem c_X5_learn {N : Nat} {c_board_askers : Int32} {c_board_places : Int32} {c_board_likes : Nat → Int32} {c_board_seats : Nat → Int32} {c_board_wishes : Nat → Int32} {c_most : Int32} {c_tight : Int32} {c_firsts : Nat → Int32} {u_board_age : Int32}  {res : Int32 × Int32 × (Nat → Int32)} (hf : f_X5_learn N c_board_askers c_board_places c_board_likes c_board_seats c_board_wishes c_most c_tight c_firsts = some res) : Con mu_X5_learn [.ref 0] (w_X5_learn c_most c_tight c_board_askers c_board_places c_firsts c_board_likes c_board_seats c_board_wishes u_board_age) (none) (w_X5_learn res.1 res.2.1 c_board_askers c_board_places res.2.2 c_board_likes c_board_seats c_board_wishes u_board_age) := by
  refine Con.mk (show plainName RX5 = true by decide +kernel) (leb rfl) (fun κ ω A ad => ?_)
  change GG mu_X5_learn κ ω A (QR κ ω A ad (none) (w_X5_learn res.1 res.2.1 c_board_askers c_board_places res.2.2 c_board_likes c_board_seats c_board_wishes u_board_age)) ad 0 0 0 (w_X5_learn c_most c_tight c_board_askers c_board_places c_firsts c_board_likes c_board_seats c_board_wishes u_board_age) [some (.ref 0), none] []
  refine G_iconst 0 dX5_learn_0 (by decide) ?_
  refine G_istore_n dX5_learn_1 rfl (ltb rfl) ?_
  change GG _ _ _ _ _ _ _ _ _ _ [some (.ref 0), some (.int 0)] _
  exact g_X5_learn_2 N hf
set_option maxRecDepth 20000 in
theorem dX5_isTight_0 : decode cX5_isTight 0 = .ok (.aload_n 0, 1) := by decide +kernel
set_option maxRecDepth 20000 in
theorem dX5_isTight_1 : decode cX5_isTight 1 = .ok (.getfield 32, 3) := by decide +kernel
set_option maxRecDepth 20000 in
theorem dX5_isTight_4 : decode cX5_isTight 4 = .ok (.iload_n 1, 1) := by decide +kernel
set_option maxRecDepth 20000 in
theorem dX5_isTight_5 : decode cX5_isTight 5 = .ok (.ishr, 1) := by decide +kernel
set_option maxRecDepth 20000 in
theorem dX5_isTight_6 : decode cX5_isTight 6 = .ok (.iconst 1, 1) := by decide +kernel
set_option maxRecDepth 20000 in
theorem dX5_isTight_7 : decode cX5_isTight 7 = .ok (.iand, 1) := by decide +kernel
set_option maxRecDepth 20000 in
theorem dX5_isTight_8 : decode cX5_isTight 8 = .ok (.iconst 1, 1) := by decide +kernel
set_option maxRecDepth 20000 in
theorem dX5_isTight_9 : decode cX5_isTight 9 = .ok (.if_icmp .ne 7, 3) := by decide +kernel
set_option maxRecDepth 20000 in
theorem dX5_isTight_12 : decode cX5_isTight 12 = .ok (.iconst 1, 1) := by decide +kernel
set_option maxRecDepth 20000 in
theorem dX5_isTight_13 : decode cX5_isTight 13 = .ok (.goto 4, 3) := by decide +kernel
set_option maxRecDepth 20000 in
theorem dX5_isTight_16 : decode cX5_isTight 16 = .ok (.iconst 0, 1) := by decide +kernel
set_option maxRecDepth 20000 in
theorem dX5_isTight_17 : decode cX5_isTight 17 = .ok (.ireturn, 1) := by decide +kernel
def f_X5_isTight (N : Nat) (c_tight : Int32) (a1 : Int32) : Option (Int32) :=
  (if ((c_tight >>> (a1 &&& 31)) &&& (1 : Int32)) = 1 then
    some 1
  else
    some 0)
set_option maxHeartbeats 4000000 in
set_option maxRecDepth 100000 in
theorem c_X5_isTight {N : Nat} {c_tight : Int32}  {u_most : Int32} {a1 : Int32} {res : Int32} (hf : f_X5_isTight N c_tight a1 = some res) : Con mu_X5_isTight [.ref 0, .int a1] (w_X5_isTight c_tight u_most) (some (.int res)) (w_X5_isTight c_tight u_most) := by
  refine Con.mk (show plainName RX5 = true by decide +kernel) (leb rfl) (fun κ ω A ad => ?_)
  change GG mu_X5_isTight κ ω A (QR κ ω A ad (some (.int res)) (w_X5_isTight c_tight u_most)) ad 0 0 0 (w_X5_isTight c_tight u_most) [some (.ref 0), some (.int a1)] []
  refine G_aload_n dX5_isTight_0 rfl rfl ?_
  refine G_get (v := .int c_tight) F_X5_32 dX5_isTight_1 rfl rfl ?_
  refine G_iload_n dX5_isTight_4 rfl rfl ?_
  refine G_ishr dX5_isTight_5 ?_
  refine G_iconst 1 dX5_isTight_6 (by decide) ?_
  refine G_iand dX5_isTight_7 ?_
  refine G_iconst 1 dX5_isTight_8 (by decide) ?_
  refine G_icmp_ne 16 dX5_isTight_9 (by decide) (fun h1 => ?_) (fun h1 => ?_)
  · replace hf := ob_f h1 hf
    refine G_iconst 0 dX5_isTight_16 (by decide) ?_
    obtain rfl := os hf
    exact G_zreturn dX5_isTight_17 rfl z_0
  · replace hf := ob_t h1 hf
    refine G_iconst 1 dX5_isTight_12 (by decide) ?_
    refine G_goto 17 dX5_isTight_13 (by decide) ?_
    obtain rfl := os hf
    exact G_zreturn dX5_isTight_17 rfl z_1
set_option maxRecDepth 20000 in
theorem dX5_secondWorth_0 : decode cX5_secondWorth 0 = .ok (.bipush 7, 2) := by decide +kernel
set_option maxRecDepth 20000 in
theorem dX5_secondWorth_2 : decode cX5_secondWorth 2 = .ok (.istore_n 2, 1) := by decide +kernel
set_option maxRecDepth 20000 in
theorem dX5_secondWorth_3 : decode cX5_secondWorth 3 = .ok (.iconst 0, 1) := by decide +kernel
set_option maxRecDepth 20000 in
theorem dX5_secondWorth_4 : decode cX5_secondWorth 4 = .ok (.istore_n 3, 1) := by decide +kernel
set_option maxRecDepth 20000 in
theorem dX5_secondWorth_5 : decode cX5_secondWorth 5 = .ok (.iload_n 3, 1) := by decide +kernel
set_option maxRecDepth 20000 in
theorem dX5_secondWorth_6 : decode cX5_secondWorth 6 = .ok (.aload_n 0, 1) := by decide +kernel
set_option maxRecDepth 20000 in
theorem dX5_secondWorth_7 : decode cX5_secondWorth 7 = .ok (.getfield 9, 3) := by decide +kernel
set_option maxRecDepth 20000 in
theorem dX5_secondWorth_10 : decode cX5_secondWorth 10 = .ok (.getfield 35, 3) := by decide +kernel
set_option maxRecDepth 20000 in
theorem dX5_secondWorth_13 : decode cX5_secondWorth 13 = .ok (.if_icmp .ge 40, 3) := by decide +kernel
set_option maxRecDepth 20000 in
theorem dX5_secondWorth_16 : decode cX5_secondWorth 16 = .ok (.aload_n 0, 1) := by decide +kernel
set_option maxRecDepth 20000 in
theorem dX5_secondWorth_17 : decode cX5_secondWorth 17 = .ok (.iload_n 3, 1) := by decide +kernel
set_option maxRecDepth 20000 in
theorem dX5_secondWorth_18 : decode cX5_secondWorth 18 = .ok (.invokevirtual 62, 3) := by decide +kernel
set_option maxRecDepth 20000 in
theorem dX5_secondWorth_21 : decode cX5_secondWorth 21 = .ok (.ifCond .ne 26, 3) := by decide +kernel
set_option maxRecDepth 20000 in
theorem dX5_secondWorth_24 : decode cX5_secondWorth 24 = .ok (.aload_n 0, 1) := by decide +kernel
set_option maxRecDepth 20000 in
theorem dX5_secondWorth_25 : decode cX5_secondWorth 25 = .ok (.getfield 9, 3) := by decide +kernel
set_option maxRecDepth 20000 in
theorem dX5_secondWorth_28 : decode cX5_secondWorth 28 = .ok (.iload_n 1, 1) := by decide +kernel
set_option maxRecDepth 20000 in
theorem dX5_secondWorth_29 : decode cX5_secondWorth 29 = .ok (.iload_n 3, 1) := by decide +kernel
set_option maxRecDepth 20000 in
theorem dX5_secondWorth_30 : decode cX5_secondWorth 30 = .ok (.invokevirtual 66, 3) := by decide +kernel
set_option maxRecDepth 20000 in
theorem dX5_secondWorth_33 : decode cX5_secondWorth 33 = .ok (.iload_n 2, 1) := by decide +kernel
set_option maxRecDepth 20000 in
theorem dX5_secondWorth_34 : decode cX5_secondWorth 34 = .ok (.if_icmp .ge 13, 3) := by decide +kernel
set_option maxRecDepth 20000 in
theorem dX5_secondWorth_37 : decode cX5_secondWorth 37 = .ok (.aload_n 0, 1) := by decide +kernel
set_option maxRecDepth 20000 in
theorem dX5_secondWorth_38 : decode cX5_secondWorth 38 = .ok (.getfield 9, 3) := by decide +kernel
set_option maxRecDepth 20000 in
theorem dX5_secondWorth_41 : decode cX5_secondWorth 41 = .ok (.iload_n 1, 1) := by decide +kernel
set_option maxRecDepth 20000 in
theorem dX5_secondWorth_42 : decode cX5_secondWorth 42 = .ok (.iload_n 3, 1) := by decide +kernel
set_option maxRecDepth 20000 in
theorem dX5_secondWorth_43 : decode cX5_secondWorth 43 = .ok (.invokevirtual 66, 3) := by decide +kernel
set_option maxRecDepth 20000 in
theorem dX5_secondWorth_46 : decode cX5_secondWorth 46 = .ok (.istore_n 2, 1) := by decide +kernel
set_option maxRecDepth 20000 in
theorem dX5_secondWorth_47 : decode cX5_secondWorth 47 = .ok (.iinc 3 1, 3) := by decide +kernel
set_option maxRecDepth 20000 in
theorem dX5_secondWorth_50 : decode cX5_secondWorth 50 = .ok (.goto (-45), 3) := by decide +kernel
set_option maxRecDepth 20000 in
theorem dX5_secondWorth_53 : decode cX5_secondWorth 53 = .ok (.iload_n 2, 1) := by decide +kernel
set_option maxRecDepth 20000 in
theorem dX5_secondWorth_54 : decode cX5_secondWorth 54 = .ok (.ireturn, 1) := by decide +kernel
def f_X5_secondWorth_5 (N : Nat) (c_tight : Int32) (c_board_places : Int32) (c_board_wishes : Nat → Int32) : Nat → Int32 → Int32 → Int32 → Option (Int32)
  | 0, _, _, _ => none
  | n + 1, v1, v2, v3 =>
    (if c_board_places ≤ v3 then
      some v2
    else
      (f_X5_isTight N c_tight v3).bind fun r2 =>
      (if r2 = 0 then
        (f_X0_worthOf N c_board_wishes v1 v3).bind fun r5 =>
        (if v2 ≤ r5 then
          f_X5_secondWorth_5 N c_tight c_board_places c_board_wishes n v1 v2 (v3 + 1)
        else
          (f_X0_worthOf N c_board_wishes v1 v3).bind fun r8 =>
          f_X5_secondWorth_5 N c_tight c_board_places c_board_wishes n v1 r8 (v3 + 1))
      else
        f_X5_secondWorth_5 N c_tight c_board_places c_board_wishes n v1 v2 (v3 + 1)))
set_option maxHeartbeats 4000000 in
set_option maxRecDepth 100000 in
theorem g_X5_secondWorth_5 {κ : KC} {ω : KW} {A : Nat → Prop} {ad : Nat → Nat} {u_most : Int32} {u_board_askers : Int32} {u_board_age : Int32} {N : Nat} {c_tight : Int32} {c_board_places : Int32} {c_board_wishes : Nat → Int32}  {res : Int32} : ∀ (n : Nat) {v1 : Int32} {v2 : Int32} {v3 : Int32}, f_X5_secondWorth_5 N c_tight c_board_places c_board_wishes n v1 v2 v3 = some res → GG mu_X5_secondWorth κ ω A (QR κ ω A ad (some (.int res)) (w_X5_secondWorth c_tight c_board_places c_board_wishes u_most u_board_askers u_board_age)) ad 0 0 5 (w_X5_secondWorth c_tight c_board_places c_board_wishes u_most u_board_askers u_board_age) [some (.ref 0), some (.int v1), some (.int v2), some (.int v3)] [] := by
  intro n
  induction n with
  | zero => intro v1 v2 v3 hf; exact ob_0 hf
  | succ n ih =>
    intro v1 v2 v3 hf
    refine G_iload_n dX5_secondWorth_5 rfl rfl ?_
    refine G_aload_n dX5_secondWorth_6 rfl rfl ?_
    refine G_get (v := .ref 1) F_X5_9 dX5_secondWorth_7 rfl rfl ?_
    refine G_get (v := .int c_board_places) F_X5_35 dX5_secondWorth_10 rfl rfl ?_
    refine G_icmp_ge 53 dX5_secondWorth_13 (by decide) (fun h1 => ?_) (fun h1 => ?_)
    · replace hf := ob_t h1 hf
      refine G_iload_n dX5_secondWorth_53 rfl rfl ?_
      obtain rfl := os hf
      exact G_ireturn dX5_secondWorth_54 rfl
    · replace hf := ob_f h1 hf
      refine G_aload_n dX5_secondWorth_16 rfl rfl ?_
      refine G_iload_n dX5_secondWorth_17 rfl rfl ?_
      obtain ⟨r2, hc3, hf⟩ := ob hf
      refine G_callV (μ2 := mu_X5_isTight) (As := [.int v3]) (w2 := (w_X5_secondWorth c_tight c_board_places c_board_wishes u_most u_board_askers u_board_age)) (wc := (w_X5_isTight c_tight u_most)) (wc2 := (w_X5_isTight c_tight u_most)) (rest := []) (rv := [.int r2]) [0] [1, 1000] [1, 2] [2, 0, 1] (c_X5_isTight hc3) cw_X5_isTight m_X5_62 dX5_secondWorth_18 rfl ⟨leb rfl, leb rfl⟩ ⟨rfl, rfl⟩ rfl ⟨_, rfl, rfl⟩ (Fit.mk rfl rfl rfl) rfl (leb rfl) (ROsub.nil rfl rfl) rfl ?_
      change GG _ _ _ _ _ _ _ _ _ (w_X5_secondWorth c_tight c_board_places c_board_wishes u_most u_board_askers u_board_age) [some (.ref 0), some (.int v1), some (.int v2), some (.int v3)] [.int r2]
      refine G_if_ne 47 dX5_secondWorth_21 (by decide) (fun h4 => ?_) (fun h4 => ?_)
      · replace hf := ob_f h4 hf
        refine G_iinc 1 dX5_secondWorth_47 (by decide) rfl (ltb rfl) ?_
        change GG _ _ _ _ _ _ _ _ _ _ [some (.ref 0), some (.int v1), some (.int v2), some (.int (v3 + 1))] _
        refine G_goto 5 dX5_secondWorth_50 (by decide) ?_
        exact ih hf
      · replace hf := ob_t h4 hf
        refine G_aload_n dX5_secondWorth_24 rfl rfl ?_
        refine G_get (v := .ref 1) F_X5_9 dX5_secondWorth_25 rfl rfl ?_
        refine G_iload_n dX5_secondWorth_28 rfl rfl ?_
        refine G_iload_n dX5_secondWorth_29 rfl rfl ?_
        obtain ⟨r5, hc6, hf⟩ := ob hf
        refine G_callV (μ2 := mu_X0_worthOf) (As := [.int v1, .int v3]) (w2 := (w_X5_secondWorth c_tight c_board_places c_board_wishes u_most u_board_askers u_board_age)) (wc := (w_X0_worthOf c_board_wishes u_board_askers c_board_places u_board_age)) (wc2 := (w_X0_worthOf c_board_wishes u_board_askers c_board_places u_board_age)) (rest := []) (rv := [.int r5]) [1, 2] [1001, 1002, 1003] [0] [0, 1, 2] (c_X0_worthOf hc6) cw_X0_worthOf m_X5_66 dX5_secondWorth_30 rfl ⟨leb rfl, leb rfl⟩ ⟨rfl, rfl⟩ rfl ⟨_, rfl, rfl⟩ (Fit.mk rfl rfl rfl) rfl (leb rfl) (ROsub.nil rfl rfl) rfl ?_
        change GG _ _ _ _ _ _ _ _ _ (w_X5_secondWorth c_tight c_board_places c_board_wishes u_most u_board_askers u_board_age) [some (.ref 0), some (.int v1), some (.int v2), some (.int v3)] [.int r5]
        refine G_iload_n dX5_secondWorth_33 rfl rfl ?_
        refine G_icmp_ge 47 dX5_secondWorth_34 (by decide) (fun h7 => ?_) (fun h7 => ?_)
        · replace hf := ob_t h7 hf
          refine G_iinc 1 dX5_secondWorth_47 (by decide) rfl (ltb rfl) ?_
          change GG _ _ _ _ _ _ _ _ _ _ [some (.ref 0), some (.int v1), some (.int v2), some (.int (v3 + 1))] _
          refine G_goto 5 dX5_secondWorth_50 (by decide) ?_
          exact ih hf
        · replace hf := ob_f h7 hf
          refine G_aload_n dX5_secondWorth_37 rfl rfl ?_
          refine G_get (v := .ref 1) F_X5_9 dX5_secondWorth_38 rfl rfl ?_
          refine G_iload_n dX5_secondWorth_41 rfl rfl ?_
          refine G_iload_n dX5_secondWorth_42 rfl rfl ?_
          obtain ⟨r8, hc9, hf⟩ := ob hf
          refine G_callV (μ2 := mu_X0_worthOf) (As := [.int v1, .int v3]) (w2 := (w_X5_secondWorth c_tight c_board_places c_board_wishes u_most u_board_askers u_board_age)) (wc := (w_X0_worthOf c_board_wishes u_board_askers c_board_places u_board_age)) (wc2 := (w_X0_worthOf c_board_wishes u_board_askers c_board_places u_board_age)) (rest := []) (rv := [.int r8]) [1, 2] [1001, 1002, 1003] [0] [0, 1, 2] (c_X0_worthOf hc9) cw_X0_worthOf m_X5_66 dX5_secondWorth_43 rfl ⟨leb rfl, leb rfl⟩ ⟨rfl, rfl⟩ rfl ⟨_, rfl, rfl⟩ (Fit.mk rfl rfl rfl) rfl (leb rfl) (ROsub.nil rfl rfl) rfl ?_
          change GG _ _ _ _ _ _ _ _ _ (w_X5_secondWorth c_tight c_board_places c_board_wishes u_most u_board_askers u_board_age) [some (.ref 0), some (.int v1), some (.int v2), some (.int v3)] [.int r8]
          refine G_istore_n dX5_secondWorth_46 rfl (ltb rfl) ?_
          change GG _ _ _ _ _ _ _ _ _ _ [some (.ref 0), some (.int v1), some (.int r8), some (.int v3)] _
          refine G_iinc 1 dX5_secondWorth_47 (by decide) rfl (ltb rfl) ?_
          change GG _ _ _ _ _ _ _ _ _ _ [some (.ref 0), some (.int v1), some (.int r8), some (.int (v3 + 1))] _
          refine G_goto 5 dX5_secondWorth_50 (by decide) ?_
          exact ih hf
def f_X5_secondWorth (N : Nat) (c_tight : Int32) (c_board_places : Int32) (c_board_wishes : Nat → Int32) (a1 : Int32) : Option (Int32) :=
  f_X5_secondWorth_5 N c_tight c_board_places c_board_wishes N a1 7 0
set_option maxHeartbeats 4000000 in
set_option maxRecDepth 100000 in
theorem c_X5_secondWorth {N : Nat} {c_tight : Int32} {c_board_places : Int32} {c_board_wishes : Nat → Int32}  {u_most : Int32} {u_board_askers : Int32} {u_board_age : Int32} {a1 : Int32} {res : Int32} (hf : f_X5_secondWorth N c_tight c_board_places c_board_wishes a1 = some res) : Con mu_X5_secondWorth [.ref 0, .int a1] (w_X5_secondWorth c_tight c_board_places c_board_wishes u_most u_board_askers u_board_age) (some (.int res)) (w_X5_secondWorth c_tight c_board_places c_board_wishes u_most u_board_askers u_board_age) := by
  refine Con.mk (show plainName RX5 = true by decide +kernel) (leb rfl) (fun κ ω A ad => ?_)
  change GG mu_X5_secondWorth κ ω A (QR κ ω A ad (some (.int res)) (w_X5_secondWorth c_tight c_board_places c_board_wishes u_most u_board_askers u_board_age)) ad 0 0 0 (w_X5_secondWorth c_tight c_board_places c_board_wishes u_most u_board_askers u_board_age) [some (.ref 0), some (.int a1), none, none] []
  refine G_bipush 7 dX5_secondWorth_0 (by decide) ?_
  refine G_istore_n dX5_secondWorth_2 rfl (ltb rfl) ?_
  change GG _ _ _ _ _ _ _ _ _ _ [some (.ref 0), some (.int a1), some (.int 7), none] _
  refine G_iconst 0 dX5_secondWorth_3 (by decide) ?_
  refine G_istore_n dX5_secondWorth_4 rfl (ltb rfl) ?_
  change GG _ _ _ _ _ _ _ _ _ _ [some (.ref 0), some (.int a1), some (.int 7), some (.int 0)] _
  exact g_X5_secondWorth_5 N hf
set_option maxRecDepth 20000 in
theorem dX5_fillGains_0 : decode cX5_fillGains 0 = .ok (.iconst 0, 1) := by decide +kernel
set_option maxRecDepth 20000 in
theorem dX5_fillGains_1 : decode cX5_fillGains 1 = .ok (.istore 4, 2) := by decide +kernel
set_option maxRecDepth 20000 in
theorem dX5_fillGains_3 : decode cX5_fillGains 3 = .ok (.iload 4, 2) := by decide +kernel
set_option maxRecDepth 20000 in
theorem dX5_fillGains_5 : decode cX5_fillGains 5 = .ok (.aload_n 0, 1) := by decide +kernel
set_option maxRecDepth 20000 in
theorem dX5_fillGains_6 : decode cX5_fillGains 6 = .ok (.getfield 9, 3) := by decide +kernel
set_option maxRecDepth 20000 in
theorem dX5_fillGains_9 : decode cX5_fillGains 9 = .ok (.getfield 19, 3) := by decide +kernel
set_option maxRecDepth 20000 in
theorem dX5_fillGains_12 : decode cX5_fillGains 12 = .ok (.if_icmp .ge 124, 3) := by decide +kernel
set_option maxRecDepth 20000 in
theorem dX5_fillGains_15 : decode cX5_fillGains 15 = .ok (.aload_n 0, 1) := by decide +kernel
set_option maxRecDepth 20000 in
theorem dX5_fillGains_16 : decode cX5_fillGains 16 = .ok (.iload 4, 2) := by decide +kernel
set_option maxRecDepth 20000 in
theorem dX5_fillGains_18 : decode cX5_fillGains 18 = .ok (.invokevirtual 52, 3) := by decide +kernel
set_option maxRecDepth 20000 in
theorem dX5_fillGains_21 : decode cX5_fillGains 21 = .ok (.istore 5, 2) := by decide +kernel
set_option maxRecDepth 20000 in
theorem dX5_fillGains_23 : decode cX5_fillGains 23 = .ok (.aload_n 1, 1) := by decide +kernel
set_option maxRecDepth 20000 in
theorem dX5_fillGains_24 : decode cX5_fillGains 24 = .ok (.iload 4, 2) := by decide +kernel
set_option maxRecDepth 20000 in
theorem dX5_fillGains_26 : decode cX5_fillGains 26 = .ok (.iconst (-1), 1) := by decide +kernel
set_option maxRecDepth 20000 in
theorem dX5_fillGains_27 : decode cX5_fillGains 27 = .ok (.iload 5, 2) := by decide +kernel
set_option maxRecDepth 20000 in
theorem dX5_fillGains_29 : decode cX5_fillGains 29 = .ok (.bipush 7, 2) := by decide +kernel
set_option maxRecDepth 20000 in
theorem dX5_fillGains_31 : decode cX5_fillGains 31 = .ok (.if_icmp .ne 7, 3) := by decide +kernel
set_option maxRecDepth 20000 in
theorem dX5_fillGains_34 : decode cX5_fillGains 34 = .ok (.iconst 0, 1) := by decide +kernel
set_option maxRecDepth 20000 in
theorem dX5_fillGains_35 : decode cX5_fillGains 35 = .ok (.goto 5, 3) := by decide +kernel
set_option maxRecDepth 20000 in
theorem dX5_fillGains_38 : decode cX5_fillGains 38 = .ok (.ldc 57, 2) := by decide +kernel
set_option maxRecDepth 20000 in
theorem dX5_fillGains_40 : decode cX5_fillGains 40 = .ok (.invokevirtual 58, 3) := by decide +kernel
set_option maxRecDepth 20000 in
theorem dX5_fillGains_43 : decode cX5_fillGains 43 = .ok (.iconst 0, 1) := by decide +kernel
set_option maxRecDepth 20000 in
theorem dX5_fillGains_44 : decode cX5_fillGains 44 = .ok (.istore 6, 2) := by decide +kernel
set_option maxRecDepth 20000 in
theorem dX5_fillGains_46 : decode cX5_fillGains 46 = .ok (.iload 6, 2) := by decide +kernel
set_option maxRecDepth 20000 in
theorem dX5_fillGains_48 : decode cX5_fillGains 48 = .ok (.aload_n 0, 1) := by decide +kernel
set_option maxRecDepth 20000 in
theorem dX5_fillGains_49 : decode cX5_fillGains 49 = .ok (.getfield 9, 3) := by decide +kernel
set_option maxRecDepth 20000 in
theorem dX5_fillGains_52 : decode cX5_fillGains 52 = .ok (.getfield 35, 3) := by decide +kernel
set_option maxRecDepth 20000 in
theorem dX5_fillGains_55 : decode cX5_fillGains 55 = .ok (.if_icmp .ge 75, 3) := by decide +kernel
set_option maxRecDepth 20000 in
theorem dX5_fillGains_58 : decode cX5_fillGains 58 = .ok (.ldc 57, 2) := by decide +kernel
set_option maxRecDepth 20000 in
theorem dX5_fillGains_60 : decode cX5_fillGains 60 = .ok (.istore 7, 2) := by decide +kernel
set_option maxRecDepth 20000 in
theorem dX5_fillGains_62 : decode cX5_fillGains 62 = .ok (.aload_n 0, 1) := by decide +kernel
set_option maxRecDepth 20000 in
theorem dX5_fillGains_63 : decode cX5_fillGains 63 = .ok (.getfield 15, 3) := by decide +kernel
set_option maxRecDepth 20000 in
theorem dX5_fillGains_66 : decode cX5_fillGains 66 = .ok (.iload 4, 2) := by decide +kernel
set_option maxRecDepth 20000 in
theorem dX5_fillGains_68 : decode cX5_fillGains 68 = .ok (.iaload, 1) := by decide +kernel
set_option maxRecDepth 20000 in
theorem dX5_fillGains_69 : decode cX5_fillGains 69 = .ok (.iload 6, 2) := by decide +kernel
set_option maxRecDepth 20000 in
theorem dX5_fillGains_71 : decode cX5_fillGains 71 = .ok (.ishr, 1) := by decide +kernel
set_option maxRecDepth 20000 in
theorem dX5_fillGains_72 : decode cX5_fillGains 72 = .ok (.iconst 1, 1) := by decide +kernel
set_option maxRecDepth 20000 in
theorem dX5_fillGains_73 : decode cX5_fillGains 73 = .ok (.iand, 1) := by decide +kernel
set_option maxRecDepth 20000 in
theorem dX5_fillGains_74 : decode cX5_fillGains 74 = .ok (.iconst 1, 1) := by decide +kernel
set_option maxRecDepth 20000 in
theorem dX5_fillGains_75 : decode cX5_fillGains 75 = .ok (.if_icmp .ne 11, 3) := by decide +kernel
set_option maxRecDepth 20000 in
theorem dX5_fillGains_78 : decode cX5_fillGains 78 = .ok (.iload_n 2, 1) := by decide +kernel
set_option maxRecDepth 20000 in
theorem dX5_fillGains_79 : decode cX5_fillGains 79 = .ok (.iload_n 3, 1) := by decide +kernel
set_option maxRecDepth 20000 in
theorem dX5_fillGains_80 : decode cX5_fillGains 80 = .ok (.iadd, 1) := by decide +kernel
set_option maxRecDepth 20000 in
theorem dX5_fillGains_81 : decode cX5_fillGains 81 = .ok (.istore 7, 2) := by decide +kernel
set_option maxRecDepth 20000 in
theorem dX5_fillGains_83 : decode cX5_fillGains 83 = .ok (.goto 31, 3) := by decide +kernel
set_option maxRecDepth 20000 in
theorem dX5_fillGains_86 : decode cX5_fillGains 86 = .ok (.aload_n 0, 1) := by decide +kernel
set_option maxRecDepth 20000 in
theorem dX5_fillGains_87 : decode cX5_fillGains 87 = .ok (.iload 6, 2) := by decide +kernel
set_option maxRecDepth 20000 in
theorem dX5_fillGains_89 : decode cX5_fillGains 89 = .ok (.invokevirtual 62, 3) := by decide +kernel
set_option maxRecDepth 20000 in
theorem dX5_fillGains_92 : decode cX5_fillGains 92 = .ok (.ifCond .ne 22, 3) := by decide +kernel
set_option maxRecDepth 20000 in
theorem dX5_fillGains_95 : decode cX5_fillGains 95 = .ok (.aload_n 0, 1) := by decide +kernel
set_option maxRecDepth 20000 in
theorem dX5_fillGains_96 : decode cX5_fillGains 96 = .ok (.getfield 9, 3) := by decide +kernel
set_option maxRecDepth 20000 in
theorem dX5_fillGains_99 : decode cX5_fillGains 99 = .ok (.iload 4, 2) := by decide +kernel
set_option maxRecDepth 20000 in
theorem dX5_fillGains_101 : decode cX5_fillGains 101 = .ok (.iload 6, 2) := by decide +kernel
set_option maxRecDepth 20000 in
theorem dX5_fillGains_103 : decode cX5_fillGains 103 = .ok (.invokevirtual 66, 3) := by decide +kernel
set_option maxRecDepth 20000 in
theorem dX5_fillGains_106 : decode cX5_fillGains 106 = .ok (.iload 5, 2) := by decide +kernel
set_option maxRecDepth 20000 in
theorem dX5_fillGains_108 : decode cX5_fillGains 108 = .ok (.if_icmp .ne 6, 3) := by decide +kernel
set_option maxRecDepth 20000 in
theorem dX5_fillGains_111 : decode cX5_fillGains 111 = .ok (.iload_n 3, 1) := by decide +kernel
set_option maxRecDepth 20000 in
theorem dX5_fillGains_112 : decode cX5_fillGains 112 = .ok (.istore 7, 2) := by decide +kernel
set_option maxRecDepth 20000 in
theorem dX5_fillGains_114 : decode cX5_fillGains 114 = .ok (.aload_n 1, 1) := by decide +kernel
set_option maxRecDepth 20000 in
theorem dX5_fillGains_115 : decode cX5_fillGains 115 = .ok (.iload 4, 2) := by decide +kernel
set_option maxRecDepth 20000 in
theorem dX5_fillGains_117 : decode cX5_fillGains 117 = .ok (.iload 6, 2) := by decide +kernel
set_option maxRecDepth 20000 in
theorem dX5_fillGains_119 : decode cX5_fillGains 119 = .ok (.iload 7, 2) := by decide +kernel
set_option maxRecDepth 20000 in
theorem dX5_fillGains_121 : decode cX5_fillGains 121 = .ok (.invokevirtual 58, 3) := by decide +kernel
set_option maxRecDepth 20000 in
theorem dX5_fillGains_124 : decode cX5_fillGains 124 = .ok (.iinc 6 1, 3) := by decide +kernel
set_option maxRecDepth 20000 in
theorem dX5_fillGains_127 : decode cX5_fillGains 127 = .ok (.goto (-81), 3) := by decide +kernel
set_option maxRecDepth 20000 in
theorem dX5_fillGains_130 : decode cX5_fillGains 130 = .ok (.iinc 4 1, 3) := by decide +kernel
set_option maxRecDepth 20000 in
theorem dX5_fillGains_133 : decode cX5_fillGains 133 = .ok (.goto (-130), 3) := by decide +kernel
set_option maxRecDepth 20000 in
theorem dX5_fillGains_136 : decode cX5_fillGains 136 = .ok (.return_, 1) := by decide +kernel
def f_X5_fillGains_114 (N : Nat) (c_tight : Int32) (c_board_askers : Int32) (c_board_places : Int32) (c_firsts : Nat → Int32) (c_board_wishes : Nat → Int32) (k46 : (Nat → Int32) → Int32 → Int32 → Int32 → Int32 → Int32 → Option ((Nat → Int32))) (c_a1_gains : Nat → Int32) (v2 : Int32) (v3 : Int32) (v4 : Int32) (v5 : Int32) (v6 : Int32) (v7 : Int32) : Option ((Nat → Int32)) :=
    (f_X4_setGain N c_a1_gains v4 v6 v7).bind fun o1 =>
    k46 o1 v2 v3 v4 v5 (v6 + 1)
set_option maxHeartbeats 4000000 in
set_option maxRecDepth 100000 in
theorem g_X5_fillGains_114 {κ : KC} {ω : KW} {A : Nat → Prop} {ad : Nat → Nat} {u_most : Int32} {u_a1_askers : Int32} {u_a1_places : Int32} {u_a1_seatBits : Int32} {u_a1_entries : Int32} {u_board_age : Int32} {N : Nat} {c_tight : Int32} {c_board_askers : Int32} {c_board_places : Int32} {c_firsts : Nat → Int32} {c_board_wishes : Nat → Int32}  {k46 : (Nat → Int32) → Int32 → Int32 → Int32 → Int32 → Int32 → Option ((Nat → Int32))} {res : (Nat → Int32)} (hk46 : ∀ {c_a1_gains : Nat → Int32} {v2 : Int32} {v3 : Int32} {v4 : Int32} {v5 : Int32} {v6 : Int32}, k46 c_a1_gains v2 v3 v4 v5 v6 = some res → GG mu_X5_fillGains κ ω A (QR κ ω A ad (none) (w_X5_fillGains c_tight res c_board_askers c_board_places c_firsts c_board_wishes u_most u_a1_askers u_a1_places u_a1_seatBits u_a1_entries u_board_age)) ad 0 0 46 (w_X5_fillGains c_tight c_a1_gains c_board_askers c_board_places c_firsts c_board_wishes u_most u_a1_askers u_a1_places u_a1_seatBits u_a1_entries u_board_age) [some (.ref 0), some (.ref 1), some (.int v2), some (.int v3), some (.int v4), some (.int v5), some (.int v6), none] []) {c_a1_gains : Nat → Int32} {v2 : Int32} {v3 : Int32} {v4 : Int32} {v5 : Int32} {v6 : Int32} {v7 : Int32} (hf : f_X5_fillGains_114 N c_tight c_board_askers c_board_places c_firsts c_board_wishes k46 c_a1_gains v2 v3 v4 v5 v6 v7 = some res) : GG mu_X5_fillGains κ ω A (QR κ ω A ad (none) (w_X5_fillGains c_tight res c_board_askers c_board_places c_firsts c_board_wishes u_most u_a1_askers u_a1_places u_a1_seatBits u_a1_entries u_board_age)) ad 0 0 114 (w_X5_fillGains c_tight c_a1_gains c_board_askers c_board_places c_firsts c_board_wishes u_most u_a1_askers u_a1_places u_a1_seatBits u_a1_entries u_board_age) [some (.ref 0), some (.ref 1), some (.int v2), some (.int v3), some (.int v4), some (.int v5), some (.int v6), some (.int v7)] [] := by
  refine G_aload_n dX5_fillGains_114 rfl rfl ?_
  refine G_iload dX5_fillGains_115 rfl ?_
  refine G_iload dX5_fillGains_117 rfl ?_
  refine G_iload dX5_fillGains_119 rfl ?_
  obtain ⟨o1, hc2, hf⟩ := ob hf
  refine G_callV (μ2 := mu_X4_setGain) (As := [.int v4, .int v6, .int v7]) (w2 := (w_X5_fillGains c_tight o1 c_board_askers c_board_places c_firsts c_board_wishes u_most u_a1_askers u_a1_places u_a1_seatBits u_a1_entries u_board_age)) (wc := (w_X4_setGain c_a1_gains u_a1_askers u_a1_places u_a1_seatBits u_a1_entries)) (wc2 := (w_X4_setGain o1 u_a1_askers u_a1_places u_a1_seatBits u_a1_entries)) (rest := []) (rv := []) [1, 2] [1000, 1001, 1002, 1003, 1004, 1005, 1006, 1007, 1008, 1009, 1010] [0, 3, 4, 5] [0, 4, 5, 1, 2, 3] (c_X4_setGain hc2) cw_X4_setGain m_X5_58 dX5_fillGains_121 rfl ⟨leb rfl, leb rfl⟩ ⟨rfl, rfl⟩ rfl ⟨_, rfl, rfl⟩ (Fit.mk rfl rfl rfl) rfl (leb rfl) (ROsub.nil rfl rfl) rfl ?_
  change GG _ _ _ _ _ _ _ _ _ (w_X5_fillGains c_tight o1 c_board_askers c_board_places c_firsts c_board_wishes u_most u_a1_askers u_a1_places u_a1_seatBits u_a1_entries u_board_age) [some (.ref 0), some (.ref 1), some (.int v2), some (.int v3), some (.int v4), some (.int v5), some (.int v6), some (.int v7)] []
  refine G_iinc 1 dX5_fillGains_124 (by decide) rfl (ltb rfl) ?_
  change GG _ _ _ _ _ _ _ _ _ _ [some (.ref 0), some (.ref 1), some (.int v2), some (.int v3), some (.int v4), some (.int v5), some (.int (v6 + 1)), some (.int v7)] _
  refine G_goto 46 dX5_fillGains_127 (by decide) ?_
  refine GG.sb (lv2 := [some (.ref 0), some (.ref 1), some (.int v2), some (.int v3), some (.int v4), some (.int v5), some (.int (v6 + 1)), none]) ?_ (lvS_v rfl (lvS_v rfl (lvS_v rfl (lvS_v rfl (lvS_v rfl (lvS_v rfl (lvS_v rfl (lvS_n (lvS_e)))))))))
  exact hk46 hf
def f_X5_fillGains_46 (N : Nat) (c_tight : Int32) (c_board_askers : Int32) (c_board_places : Int32) (c_firsts : Nat → Int32) (c_board_wishes : Nat → Int32) (k3 : (Nat → Int32) → Int32 → Int32 → Int32 → Option ((Nat → Int32))) : Nat → (Nat → Int32) → Int32 → Int32 → Int32 → Int32 → Int32 → Option ((Nat → Int32))
  | 0, _, _, _, _, _, _ => none
  | n + 1, c_a1_gains, v2, v3, v4, v5, v6 =>
    (if c_board_places ≤ v6 then
      k3 c_a1_gains v2 v3 (v4 + 1)
    else
      (rdI 8 c_firsts v4).bind fun t2 =>
      (if ((t2 >>> (v6 &&& 31)) &&& (1 : Int32)) = 1 then
        f_X5_fillGains_114 N c_tight c_board_askers c_board_places c_firsts c_board_wishes (f_X5_fillGains_46 N c_tight c_board_askers c_board_places c_firsts c_board_wishes k3 n) c_a1_gains v2 v3 v4 v5 v6 (v2 + v3)
      else
        (f_X5_isTight N c_tight v6).bind fun r4 =>
        (if r4 = 0 then
          (f_X0_worthOf N c_board_wishes v4 v6).bind fun r7 =>
          (if r7 = v5 then
            f_X5_fillGains_114 N c_tight c_board_askers c_board_places c_firsts c_board_wishes (f_X5_fillGains_46 N c_tight c_board_askers c_board_places c_firsts c_board_wishes k3 n) c_a1_gains v2 v3 v4 v5 v6 v3
          else
            f_X5_fillGains_114 N c_tight c_board_askers c_board_places c_firsts c_board_wishes (f_X5_fillGains_46 N c_tight c_board_askers c_board_places c_firsts c_board_wishes k3 n) c_a1_gains v2 v3 v4 v5 v6 (-2000000000 : Int32))
        else
          f_X5_fillGains_114 N c_tight c_board_askers c_board_places c_firsts c_board_wishes (f_X5_fillGains_46 N c_tight c_board_askers c_board_places c_firsts c_board_wishes k3 n) c_a1_gains v2 v3 v4 v5 v6 (-2000000000 : Int32))))
set_option maxHeartbeats 4000000 in
set_option maxRecDepth 100000 in
theorem g_X5_fillGains_46 {κ : KC} {ω : KW} {A : Nat → Prop} {ad : Nat → Nat} {u_most : Int32} {u_a1_askers : Int32} {u_a1_places : Int32} {u_a1_seatBits : Int32} {u_a1_entries : Int32} {u_board_age : Int32} {N : Nat} {c_tight : Int32} {c_board_askers : Int32} {c_board_places : Int32} {c_firsts : Nat → Int32} {c_board_wishes : Nat → Int32}  {k3 : (Nat → Int32) → Int32 → Int32 → Int32 → Option ((Nat → Int32))} {res : (Nat → Int32)} (hk3 : ∀ {c_a1_gains : Nat → Int32} {v2 : Int32} {v3 : Int32} {v4 : Int32}, k3 c_a1_gains v2 v3 v4 = some res → GG mu_X5_fillGains κ ω A (QR κ ω A ad (none) (w_X5_fillGains c_tight res c_board_askers c_board_places c_firsts c_board_wishes u_most u_a1_askers u_a1_places u_a1_seatBits u_a1_entries u_board_age)) ad 0 0 3 (w_X5_fillGains c_tight c_a1_gains c_board_askers c_board_places c_firsts c_board_wishes u_most u_a1_askers u_a1_places u_a1_seatBits u_a1_entries u_board_age) [some (.ref 0), some (.ref 1), some (.int v2), some (.int v3), some (.int v4), none, none, none] []) : ∀ (n : Nat) {c_a1_gains : Nat → Int32} {v2 : Int32} {v3 : Int32} {v4 : Int32} {v5 : Int32} {v6 : Int32}, f_X5_fillGains_46 N c_tight c_board_askers c_board_places c_firsts c_board_wishes k3 n c_a1_gains v2 v3 v4 v5 v6 = some res → GG mu_X5_fillGains κ ω A (QR κ ω A ad (none) (w_X5_fillGains c_tight res c_board_askers c_board_places c_firsts c_board_wishes u_most u_a1_askers u_a1_places u_a1_seatBits u_a1_entries u_board_age)) ad 0 0 46 (w_X5_fillGains c_tight c_a1_gains c_board_askers c_board_places c_firsts c_board_wishes u_most u_a1_askers u_a1_places u_a1_seatBits u_a1_entries u_board_age) [some (.ref 0), some (.ref 1), some (.int v2), some (.int v3), some (.int v4), some (.int v5), some (.int v6), none] [] := by
  intro n
  induction n with
  | zero => intro c_a1_gains v2 v3 v4 v5 v6 hf; exact ob_0 hf
  | succ n ih =>
    intro c_a1_gains v2 v3 v4 v5 v6 hf
    refine G_iload dX5_fillGains_46 rfl ?_
    refine G_aload_n dX5_fillGains_48 rfl rfl ?_
    refine G_get (v := .ref 3) F_X5_9 dX5_fillGains_49 rfl rfl ?_
    refine G_get (v := .int c_board_places) F_X5_35 dX5_fillGains_52 rfl rfl ?_
    refine G_icmp_ge 130 dX5_fillGains_55 (by decide) (fun h1 => ?_) (fun h1 => ?_)
    · replace hf := ob_t h1 hf
      refine G_iinc 1 dX5_fillGains_130 (by decide) rfl (ltb rfl) ?_
      change GG _ _ _ _ _ _ _ _ _ _ [some (.ref 0), some (.ref 1), some (.int v2), some (.int v3), some (.int (v4 + 1)), some (.int v5), some (.int v6), none] _
      refine G_goto 3 dX5_fillGains_133 (by decide) ?_
      refine GG.sb (lv2 := [some (.ref 0), some (.ref 1), some (.int v2), some (.int v3), some (.int (v4 + 1)), none, none, none]) ?_ (lvS_v rfl (lvS_v rfl (lvS_v rfl (lvS_v rfl (lvS_v rfl (lvS_n (lvS_n (lvS_n (lvS_e)))))))))
      exact hk3 hf
    · replace hf := ob_f h1 hf
      refine G_ldc (v := (-2000000000 : Int32)) dX5_fillGains_58 k_X5_57 ?_
      refine G_istore dX5_fillGains_60 (ltb rfl) ?_
      change GG _ _ _ _ _ _ _ _ _ _ [some (.ref 0), some (.ref 1), some (.int v2), some (.int v3), some (.int v4), some (.int v5), some (.int v6), some (.int (-2000000000 : Int32))] _
      refine G_aload_n dX5_fillGains_62 rfl rfl ?_
      refine G_get (v := .ref 4) F_X5_15 dX5_fillGains_63 rfl rfl ?_
      refine G_iload dX5_fillGains_66 rfl ?_
      obtain ⟨t2, ht2, hf⟩ := ob hf
      refine G_iald dX5_fillGains_68 rfl ht2 ?_
      refine G_iload dX5_fillGains_69 rfl ?_
      refine G_ishr dX5_fillGains_71 ?_
      refine G_iconst 1 dX5_fillGains_72 (by decide) ?_
      refine G_iand dX5_fillGains_73 ?_
      refine G_iconst 1 dX5_fillGains_74 (by decide) ?_
      refine G_icmp_ne 86 dX5_fillGains_75 (by decide) (fun h3 => ?_) (fun h3 => ?_)
      · replace hf := ob_f h3 hf
        refine G_aload_n dX5_fillGains_86 rfl rfl ?_
        refine G_iload dX5_fillGains_87 rfl ?_
        obtain ⟨r4, hc5, hf⟩ := ob hf
        refine G_callV (μ2 := mu_X5_isTight) (As := [.int v6]) (w2 := (w_X5_fillGains c_tight c_a1_gains c_board_askers c_board_places c_firsts c_board_wishes u_most u_a1_askers u_a1_places u_a1_seatBits u_a1_entries u_board_age)) (wc := (w_X5_isTight c_tight u_most)) (wc2 := (w_X5_isTight c_tight u_most)) (rest := []) (rv := [.int r4]) [0] [3, 4] [1, 2, 3, 4, 5] [5, 0, 1, 2, 3, 4] (c_X5_isTight hc5) cw_X5_isTight m_X5_62 dX5_fillGains_89 rfl ⟨leb rfl, leb rfl⟩ ⟨rfl, rfl⟩ rfl ⟨_, rfl, rfl⟩ (Fit.mk rfl rfl rfl) rfl (leb rfl) (ROsub.nil rfl rfl) rfl ?_
        change GG _ _ _ _ _ _ _ _ _ (w_X5_fillGains c_tight c_a1_gains c_board_askers c_board_places c_firsts c_board_wishes u_most u_a1_askers u_a1_places u_a1_seatBits u_a1_entries u_board_age) [some (.ref 0), some (.ref 1), some (.int v2), some (.int v3), some (.int v4), some (.int v5), some (.int v6), some (.int (-2000000000 : Int32))] [.int r4]
        refine G_if_ne 114 dX5_fillGains_92 (by decide) (fun h6 => ?_) (fun h6 => ?_)
        · replace hf := ob_f h6 hf
          exact g_X5_fillGains_114 ih hf
        · replace hf := ob_t h6 hf
          refine G_aload_n dX5_fillGains_95 rfl rfl ?_
          refine G_get (v := .ref 3) F_X5_9 dX5_fillGains_96 rfl rfl ?_
          refine G_iload dX5_fillGains_99 rfl ?_
          refine G_iload dX5_fillGains_101 rfl ?_
          obtain ⟨r7, hc8, hf⟩ := ob hf
          refine G_callV (μ2 := mu_X0_worthOf) (As := [.int v4, .int v6]) (w2 := (w_X5_fillGains c_tight c_a1_gains c_board_askers c_board_places c_firsts c_board_wishes u_most u_a1_askers u_a1_places u_a1_seatBits u_a1_entries u_board_age)) (wc := (w_X0_worthOf c_board_wishes c_board_askers c_board_places u_board_age)) (wc2 := (w_X0_worthOf c_board_wishes c_board_askers c_board_places u_board_age)) (rest := []) (rv := [.int r7]) [3, 5] [1011, 1012, 1013] [0, 1, 2, 4] [0, 1, 2, 4, 3, 5] (c_X0_worthOf hc8) cw_X0_worthOf m_X5_66 dX5_fillGains_103 rfl ⟨leb rfl, leb rfl⟩ ⟨rfl, rfl⟩ rfl ⟨_, rfl, rfl⟩ (Fit.mk rfl rfl rfl) rfl (leb rfl) (ROsub.nil rfl rfl) rfl ?_
          change GG _ _ _ _ _ _ _ _ _ (w_X5_fillGains c_tight c_a1_gains c_board_askers c_board_places c_firsts c_board_wishes u_most u_a1_askers u_a1_places u_a1_seatBits u_a1_entries u_board_age) [some (.ref 0), some (.ref 1), some (.int v2), some (.int v3), some (.int v4), some (.int v5), some (.int v6), some (.int (-2000000000 : Int32))] [.int r7]
          refine G_iload dX5_fillGains_106 rfl ?_
          refine G_icmp_ne 114 dX5_fillGains_108 (by decide) (fun h9 => ?_) (fun h9 => ?_)
          · replace hf := ob_f h9 hf
            exact g_X5_fillGains_114 ih hf
          · replace hf := ob_t h9 hf
            refine G_iload_n dX5_fillGains_111 rfl rfl ?_
            refine G_istore dX5_fillGains_112 (ltb rfl) ?_
            change GG _ _ _ _ _ _ _ _ _ _ [some (.ref 0), some (.ref 1), some (.int v2), some (.int v3), some (.int v4), some (.int v5), some (.int v6), some (.int v3)] _
            exact g_X5_fillGains_114 ih hf
      · replace hf := ob_t h3 hf
        refine G_iload_n dX5_fillGains_78 rfl rfl ?_
        refine G_iload_n dX5_fillGains_79 rfl rfl ?_
        refine G_iadd dX5_fillGains_80 ?_
        refine G_istore dX5_fillGains_81 (ltb rfl) ?_
        change GG _ _ _ _ _ _ _ _ _ _ [some (.ref 0), some (.ref 1), some (.int v2), some (.int v3), some (.int v4), some (.int v5), some (.int v6), some (.int (v2 + v3))] _
        refine G_goto 114 dX5_fillGains_83 (by decide) ?_
        exact g_X5_fillGains_114 ih hf
def f_X5_fillGains_40 (N : Nat) (c_tight : Int32) (c_board_askers : Int32) (c_board_places : Int32) (c_firsts : Nat → Int32) (c_board_wishes : Nat → Int32) (k3 : (Nat → Int32) → Int32 → Int32 → Int32 → Option ((Nat → Int32))) (c_a1_gains : Nat → Int32) (v2 : Int32) (v3 : Int32) (v4 : Int32) (v5 : Int32) (s1 : Int32) (s2 : Int32) (s3 : Int32) : Option ((Nat → Int32)) :=
    (f_X4_setGain N c_a1_gains s1 s2 s3).bind fun o1 =>
    f_X5_fillGains_46 N c_tight c_board_askers c_board_places c_firsts c_board_wishes k3 N o1 v2 v3 v4 v5 0
set_option maxHeartbeats 4000000 in
set_option maxRecDepth 100000 in
theorem g_X5_fillGains_40 {κ : KC} {ω : KW} {A : Nat → Prop} {ad : Nat → Nat} {u_most : Int32} {u_a1_askers : Int32} {u_a1_places : Int32} {u_a1_seatBits : Int32} {u_a1_entries : Int32} {u_board_age : Int32} {N : Nat} {c_tight : Int32} {c_board_askers : Int32} {c_board_places : Int32} {c_firsts : Nat → Int32} {c_board_wishes : Nat → Int32}  {k3 : (Nat → Int32) → Int32 → Int32 → Int32 → Option ((Nat → Int32))} {res : (Nat → Int32)} (hk3 : ∀ {c_a1_gains : Nat → Int32} {v2 : Int32} {v3 : Int32} {v4 : Int32}, k3 c_a1_gains v2 v3 v4 = some res → GG mu_X5_fillGains κ ω A (QR κ ω A ad (none) (w_X5_fillGains c_tight res c_board_askers c_board_places c_firsts c_board_wishes u_most u_a1_askers u_a1_places u_a1_seatBits u_a1_entries u_board_age)) ad 0 0 3 (w_X5_fillGains c_tight c_a1_gains c_board_askers c_board_places c_firsts c_board_wishes u_most u_a1_askers u_a1_places u_a1_seatBits u_a1_entries u_board_age) [some (.ref 0), some (.ref 1), some (.int v2), some (.int v3), some (.int v4), none, none, none] []) {c_a1_gains : Nat → Int32} {v2 : Int32} {v3 : Int32} {v4 : Int32} {v5 : Int32} {s1 : Int32} {s2 : Int32} {s3 : Int32} (hf : f_X5_fillGains_40 N c_tight c_board_askers c_board_places c_firsts c_board_wishes k3 c_a1_gains v2 v3 v4 v5 s1 s2 s3 = some res) : GG mu_X5_fillGains κ ω A (QR κ ω A ad (none) (w_X5_fillGains c_tight res c_board_askers c_board_places c_firsts c_board_wishes u_most u_a1_askers u_a1_places u_a1_seatBits u_a1_entries u_board_age)) ad 0 0 40 (w_X5_fillGains c_tight c_a1_gains c_board_askers c_board_places c_firsts c_board_wishes u_most u_a1_askers u_a1_places u_a1_seatBits u_a1_entries u_board_age) [some (.ref 0), some (.ref 1), some (.int v2), some (.int v3), some (.int v4), some (.int v5), none, none] [.int s3, .int s2, .int s1, .ref 1] := by
  obtain ⟨o1, hc2, hf⟩ := ob hf
  refine G_callV (μ2 := mu_X4_setGain) (As := [.int s1, .int s2, .int s3]) (w2 := (w_X5_fillGains c_tight o1 c_board_askers c_board_places c_firsts c_board_wishes u_most u_a1_askers u_a1_places u_a1_seatBits u_a1_entries u_board_age)) (wc := (w_X4_setGain c_a1_gains u_a1_askers u_a1_places u_a1_seatBits u_a1_entries)) (wc2 := (w_X4_setGain o1 u_a1_askers u_a1_places u_a1_seatBits u_a1_entries)) (rest := []) (rv := []) [1, 2] [1000, 1001, 1002, 1003, 1004, 1005, 1006, 1007, 1008, 1009, 1010] [0, 3, 4, 5] [0, 4, 5, 1, 2, 3] (c_X4_setGain hc2) cw_X4_setGain m_X5_58 dX5_fillGains_40 rfl ⟨leb rfl, leb rfl⟩ ⟨rfl, rfl⟩ rfl ⟨_, rfl, rfl⟩ (Fit.mk rfl rfl rfl) rfl (leb rfl) (ROsub.nil rfl rfl) rfl ?_
  change GG _ _ _ _ _ _ _ _ _ (w_X5_fillGains c_tight o1 c_board_askers c_board_places c_firsts c_board_wishes u_most u_a1_askers u_a1_places u_a1_seatBits u_a1_entries u_board_age) [some (.ref 0), some (.ref 1), some (.int v2), some (.int v3), some (.int v4), some (.int v5), none, none] []
  refine G_iconst 0 dX5_fillGains_43 (by decide) ?_
  refine G_istore dX5_fillGains_44 (ltb rfl) ?_
  change GG _ _ _ _ _ _ _ _ _ _ [some (.ref 0), some (.ref 1), some (.int v2), some (.int v3), some (.int v4), some (.int v5), some (.int 0), none] _
  exact g_X5_fillGains_46 hk3 N hf
def f_X5_fillGains_3 (N : Nat) (c_tight : Int32) (c_board_askers : Int32) (c_board_places : Int32) (c_firsts : Nat → Int32) (c_board_wishes : Nat → Int32) : Nat → (Nat → Int32) → Int32 → Int32 → Int32 → Option ((Nat → Int32))
  | 0, _, _, _, _ => none
  | n + 1, c_a1_gains, v2, v3, v4 =>
    (if c_board_askers ≤ v4 then
      some c_a1_gains
    else
      (f_X5_secondWorth N c_tight c_board_places c_board_wishes v4).bind fun r2 =>
      (if r2 = 7 then
        f_X5_fillGains_40 N c_tight c_board_askers c_board_places c_firsts c_board_wishes (f_X5_fillGains_3 N c_tight c_board_askers c_board_places c_firsts c_board_wishes n) c_a1_gains v2 v3 v4 r2 v4 (-1 : Int32) 0
      else
        f_X5_fillGains_40 N c_tight c_board_askers c_board_places c_firsts c_board_wishes (f_X5_fillGains_3 N c_tight c_board_askers c_board_places c_firsts c_board_wishes n) c_a1_gains v2 v3 v4 r2 v4 (-1 : Int32) (-2000000000 : Int32)))
set_option maxHeartbeats 4000000 in
set_option maxRecDepth 100000 in
theorem g_X5_fillGains_3 {κ : KC} {ω : KW} {A : Nat → Prop} {ad : Nat → Nat} {u_most : Int32} {u_a1_askers : Int32} {u_a1_places : Int32} {u_a1_seatBits : Int32} {u_a1_entries : Int32} {u_board_age : Int32} {N : Nat} {c_tight : Int32} {c_board_askers : Int32} {c_board_places : Int32} {c_firsts : Nat → Int32} {c_board_wishes : Nat → Int32}  {res : (Nat → Int32)} : ∀ (n : Nat) {c_a1_gains : Nat → Int32} {v2 : Int32} {v3 : Int32} {v4 : Int32}, f_X5_fillGains_3 N c_tight c_board_askers c_board_places c_firsts c_board_wishes n c_a1_gains v2 v3 v4 = some res → GG mu_X5_fillGains κ ω A (QR κ ω A ad (none) (w_X5_fillGains c_tight res c_board_askers c_board_places c_firsts c_board_wishes u_most u_a1_askers u_a1_places u_a1_seatBits u_a1_entries u_board_age)) ad 0 0 3 (w_X5_fillGains c_tight c_a1_gains c_board_askers c_board_places c_firsts c_board_wishes u_most u_a1_askers u_a1_places u_a1_seatBits u_a1_entries u_board_age) [some (.ref 0), some (.ref 1), some (.int v2), some (.int v3), some (.int v4), none, none, none] [] := by
  intro n
  induction n with
  | zero => intro c_a1_gains v2 v3 v4 hf; exact ob_0 hf
  | succ n ih =>
    intro c_a1_gains v2 v3 v4 hf
    refine G_iload dX5_fillGains_3 rfl ?_
    refine G_aload_n dX5_fillGains_5 rfl rfl ?_
    refine G_get (v := .ref 3) F_X5_9 dX5_fillGains_6 rfl rfl ?_
    refine G_get (v := .int c_board_askers) F_X5_19 dX5_fillGains_9 rfl rfl ?_
    refine G_icmp_ge 136 dX5_fillGains_12 (by decide) (fun h1 => ?_) (fun h1 => ?_)
    · replace hf := ob_t h1 hf
      obtain rfl := os hf
      exact G_return dX5_fillGains_136 rfl
    · replace hf := ob_f h1 hf
      refine G_aload_n dX5_fillGains_15 rfl rfl ?_
      refine G_iload dX5_fillGains_16 rfl ?_
      obtain ⟨r2, hc3, hf⟩ := ob hf
      refine G_callV (μ2 := mu_X5_secondWorth) (As := [.int v4]) (w2 := (w_X5_fillGains c_tight c_a1_gains c_board_askers c_board_places c_firsts c_board_wishes u_most u_a1_askers u_a1_places u_a1_seatBits u_a1_entries u_board_age)) (wc := (w_X5_secondWorth c_tight c_board_places c_board_wishes u_most c_board_askers u_board_age)) (wc2 := (w_X5_secondWorth c_tight c_board_places c_board_wishes u_most c_board_askers u_board_age)) (rest := []) (rv := [.int r2]) [0, 3, 5] [4, 1011, 1012, 1013] [1, 2, 4] [3, 0, 1, 4, 2, 5] (c_X5_secondWorth hc3) cw_X5_secondWorth m_X5_52 dX5_fillGains_18 rfl ⟨leb rfl, leb rfl⟩ ⟨rfl, rfl⟩ rfl ⟨_, rfl, rfl⟩ (Fit.mk rfl rfl rfl) rfl (leb rfl) (ROsub.nil rfl rfl) rfl ?_
      change GG _ _ _ _ _ _ _ _ _ (w_X5_fillGains c_tight c_a1_gains c_board_askers c_board_places c_firsts c_board_wishes u_most u_a1_askers u_a1_places u_a1_seatBits u_a1_entries u_board_age) [some (.ref 0), some (.ref 1), some (.int v2), some (.int v3), some (.int v4), none, none, none] [.int r2]
      refine G_istore dX5_fillGains_21 (ltb rfl) ?_
      change GG _ _ _ _ _ _ _ _ _ _ [some (.ref 0), some (.ref 1), some (.int v2), some (.int v3), some (.int v4), some (.int r2), none, none] _
      refine G_aload_n dX5_fillGains_23 rfl rfl ?_
      refine G_iload dX5_fillGains_24 rfl ?_
      refine G_iconst (-1 : Int32) dX5_fillGains_26 (by decide) ?_
      refine G_iload dX5_fillGains_27 rfl ?_
      refine G_bipush 7 dX5_fillGains_29 (by decide) ?_
      refine G_icmp_ne 38 dX5_fillGains_31 (by decide) (fun h4 => ?_) (fun h4 => ?_)
      · replace hf := ob_f h4 hf
        refine G_ldc (v := (-2000000000 : Int32)) dX5_fillGains_38 k_X5_57 ?_
        exact g_X5_fillGains_40 ih hf
      · replace hf := ob_t h4 hf
        refine G_iconst 0 dX5_fillGains_34 (by decide) ?_
        refine G_goto 40 dX5_fillGains_35 (by decide) ?_
        exact g_X5_fillGains_40 ih hf
def f_X5_fillGains (N : Nat) (c_tight : Int32) (c_board_askers : Int32) (c_board_places : Int32) (c_firsts : Nat → Int32) (c_board_wishes : Nat → Int32) (c_a1_gains : Nat → Int32) (a2 : Int32) (a3 : Int32) : Option ((Nat → Int32)) :=
  f_X5_fillGains_3 N c_tight c_board_askers c_board_places c_firsts c_board_wishes N c_a1_gains a2 a3 0
set_option maxHeartbeats 4000000 in
set_option maxRecDepth 100000 in
theorem c_X5_fillGains {N : Nat} {c_tight : Int32} {c_board_askers : Int32} {c_board_places : Int32} {c_firsts : Nat → Int32} {c_board_wishes : Nat → Int32} {c_a1_gains : Nat → Int32} {u_most : Int32} {u_a1_askers : Int32} {u_a1_places : Int32} {u_a1_seatBits : Int32} {u_a1_entries : Int32} {u_board_age : Int32} {a2 : Int32} {a3 : Int32} {res : (Nat → Int32)} (hf : f_X5_fillGains N c_tight c_board_askers c_board_places c_firsts c_board_wishes c_a1_gains a2 a3 = some res) : Con mu_X5_fillGains [.ref 0, .ref 1, .int a2, .int a3] (w_X5_fillGains c_tight c_a1_gains c_board_askers c_board_places c_firsts c_board_wishes u_most u_a1_askers u_a1_places u_a1_seatBits u_a1_entries u_board_age) (none) (w_X5_fillGains c_tight res c_board_askers c_board_places c_firsts c_board_wishes u_most u_a1_askers u_a1_places u_a1_seatBits u_a1_entries u_board_age) := by
  refine Con.mk (show plainName RX5 = true by decide +kernel) (leb rfl) (fun κ ω A ad => ?_)
  change GG mu_X5_fillGains κ ω A (QR κ ω A ad (none) (w_X5_fillGains c_tight res c_board_askers c_board_places c_firsts c_board_wishes u_most u_a1_askers u_a1_places u_a1_seatBits u_a1_entries u_board_age)) ad 0 0 0 (w_X5_fillGains c_tight c_a1_gains c_board_askers c_board_places c_firsts c_board_wishes u_most u_a1_askers u_a1_places u_a1_seatBits u_a1_entries u_board_age) [some (.ref 0), some (.ref 1), some (.int a2), some (.int a3), none, none, none, none] []
  refine G_iconst 0 dX5_fillGains_0 (by decide) ?_
  refine G_istore dX5_fillGains_1 (ltb rfl) ?_
  change GG _ _ _ _ _ _ _ _ _ _ [some (.ref 0), some (.ref 1), some (.int a2), some (.int a3), some (.int 0), none, none, none] _
  exact g_X5_fillGains_3 N hf
