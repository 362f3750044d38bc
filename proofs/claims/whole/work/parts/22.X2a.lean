/-! printed by wip/gen: WishPlaces$Lots, part 0 -/
set_option maxRecDepth 100000 in
theorem uX2 : ∀ w ∈ u_ws RX2 TX2 8, w ∈ ALLW := by decide +kernel
theorem F_X2_9 : FLD RX2 9 2 0 (.object "WishPlaces$Board") true := ⟨RX2, TX2, 8, tyX2, rfl, by decide, uX2, all_of 193 (by decide +kernel) (by decide +kernel), tyX2_ok, rfl, nmX2, rfl⟩
theorem F_X2_15 : FLD RX2 15 2 1 (.array .int) true := ⟨RX2, TX2, 8, tyX2, rfl, by decide, uX2, all_of 194 (by decide +kernel) (by decide +kernel), tyX2_ok, rfl, nmX2, rfl⟩
theorem F_X2_19 : FLD RX2 19 2 3 (.array .long) true := ⟨RX2, TX2, 8, tyX2, rfl, by decide, uX2, all_of 196 (by decide +kernel) (by decide +kernel), tyX2_ok, rfl, nmX2, rfl⟩
theorem F_X2_23 : FLD RX2 23 2 4 (.array .int) true := ⟨RX2, TX2, 8, tyX2, rfl, by decide, uX2, all_of 197 (by decide +kernel) (by decide +kernel), tyX2_ok, rfl, nmX2, rfl⟩
theorem F_X2_26 : FLD RX2 26 2 2 .int false := ⟨RX2, TX2, 8, tyX2, rfl, by decide, uX2, all_of 195 (by decide +kernel) (by decide +kernel), tyX2_ok, rfl, nmX2, rfl⟩
theorem F_X2_30 : FLD RX2 30 0 2 .int false := ⟨RX0, TX0, 7, tyX0, rfl, by decide, uX0, all_of 39 (by decide +kernel) (by decide +kernel), tyX0_ok, rfl, nmX0, rfl⟩
theorem F_X2_33 : FLD RX2 33 2 6 .int false := ⟨RX2, TX2, 8, tyX2, rfl, by decide, uX2, all_of 199 (by decide +kernel) (by decide +kernel), tyX2_ok, rfl, nmX2, rfl⟩
theorem F_X2_36 : FLD RX2 36 2 7 .int false := ⟨RX2, TX2, 8, tyX2, rfl, by decide, uX2, all_of 200 (by decide +kernel) (by decide +kernel), tyX2_ok, rfl, nmX2, rfl⟩
theorem F_X2_39 : FLD RX2 39 2 5 .long false := ⟨RX2, TX2, 8, tyX2, rfl, by decide, uX2, all_of 198 (by decide +kernel) (by decide +kernel), tyX2_ok, rfl, nmX2, rfl⟩
theorem F_X2_55 : FLD RX2 55 0 0 .int false := ⟨RX0, TX0, 7, tyX0, rfl, by decide, uX0, all_of 30 (by decide +kernel) (by decide +kernel), tyX0_ok, rfl, nmX0, rfl⟩
theorem m_X2_43 : Cond.methodLink RX2 43 yX0_wishOf ∈ ALLW := all_of 679 (by decide +kernel) (by decide +kernel)
theorem m_X2_47 : Cond.methodLink RX2 47 yX0_seatBits ∈ ALLW := all_of 680 (by decide +kernel) (by decide +kernel)
theorem m_X2_51 : Cond.methodLink RX2 51 yX2_ordersFrom ∈ ALLW := all_of 681 (by decide +kernel) (by decide +kernel)
theorem m_X2_58 : Cond.methodLink RX2 58 yX2_ordersAfter ∈ ALLW := all_of 684 (by decide +kernel) (by decide +kernel)
theorem m_X2_62 : Cond.methodLink RX2 62 yX2_takes ∈ ALLW := all_of 687 (by decide +kernel) (by decide +kernel)
theorem m_X2_68 : Cond.methodLink RX2 68 yX0_likeAt ∈ ALLW := all_of 691 (by decide +kernel) (by decide +kernel)
theorem s_X2_65 : Cond.fieldLink RX2 65 "WishPlaces$Lots" "ORDERS" "[I" ∈ ALLW := all_of 695 (by decide +kernel) (by decide +kernel)
abbrev mu_X2_takes : KM := (yX2_takes, cX2_takes, 5, (some .int), { frames := 1, cells := 0, slots := 0, locals := 22 }, [], [])
def w_X2_takes (c_board_likes : Nat → Int32) (u_age : Int32) (u_runs : Int64) (u_wanting : Int32) (u_wanted : Int32) (u_board_askers : Int32) (u_board_places : Int32) (u_board_age : Int32) : List mE := [.inr (2, [.ref 1, .ref 1000, .int u_age, .ref 1001, .ref 1002, .long u_runs, .int u_wanting, .int u_wanted]), .inr (0, [.int u_board_askers, .int u_board_places, .int u_board_age, .ref 1003, .ref 1004, .ref 2, .ref 1005]), .inl (0, 48, .inl c_board_likes)]
theorem cw_X2_takes : CWv mu_X2_takes 2 := ⟨⟨all_of 690 (by decide +kernel) (by decide +kernel), all_of 7 (by decide +kernel) (by decide +kernel), by decide +kernel, by decide +kernel, by decide +kernel⟩, all_of 689 (by decide +kernel) (by decide +kernel), all_pr 38 (by decide +kernel) (by decide +kernel)⟩
abbrev mu_X2_ordersAfter (d : Nat) : KM := (yX2_ordersAfter, cX2_ordersAfter, 7, (some .int), { frames := 2 * d + 5, cells := 0, slots := 0, locals := 70 * d + 140 }, [(1000, 9, ro_ORDERS)], [("WishPlaces$Lots", "ORDERS", 1000)])
def w_X2_ordersAfter (c_a0_runs : Int64) (c_a0_wanting : Int32) (c_a0_wanted : Int32) (c_a0_board_askers : Int32) (c_a0_memoKeys : Nat → Int64) (c_a0_memos : Nat → Int32) (c_a0_board_likes : Nat → Int32) (u_a0_age : Int32) (u_a0_board_places : Int32) (u_a0_board_age : Int32) : List mE := [.inr (2, [.ref 1, .ref 1001, .int u_a0_age, .ref 2, .ref 3, .long c_a0_runs, .int c_a0_wanting, .int c_a0_wanted]), .inr (0, [.int c_a0_board_askers, .int u_a0_board_places, .int u_a0_board_age, .ref 1002, .ref 1003, .ref 4, .ref 1004]), .inl (1, 2048, .inr (.inl c_a0_memoKeys)), .inl (0, 2048, .inl c_a0_memos), .inl (0, 48, .inl c_a0_board_likes)]
theorem cwz_X2_ordersAfter : CWs (mu_X2_ordersAfter 0) 5 := ⟨⟨all_of 686 (by decide +kernel) (by decide +kernel), all_of 7 (by decide +kernel) (by decide +kernel), by decide +kernel, by decide +kernel, by decide +kernel⟩, all_of 685 (by decide +kernel) (by decide +kernel)⟩
theorem cw_X2_ordersAfter {d : Nat} : CWs (mu_X2_ordersAfter d) 5 := cwz_X2_ordersAfter
abbrev mu_X2_ordersFrom (d : Nat) : KM := (yX2_ordersFrom, cX2_ordersFrom, 9, (some .int), { frames := 2 * d + 4, cells := 0, slots := 0, locals := 70 * d + 100 }, [(1000, 9, ro_ORDERS)], [("WishPlaces$Lots", "ORDERS", 1000)])
def w_X2_ordersFrom (c_a0_runs : Int64) (c_a0_wanting : Int32) (c_a0_wanted : Int32) (c_a0_board_askers : Int32) (c_a0_memoKeys : Nat → Int64) (c_a0_memos : Nat → Int32) (c_a0_board_likes : Nat → Int32) (u_a0_age : Int32) (u_a0_board_places : Int32) (u_a0_board_age : Int32) : List mE := [.inr (2, [.ref 1, .ref 1001, .int u_a0_age, .ref 2, .ref 3, .long c_a0_runs, .int c_a0_wanting, .int c_a0_wanted]), .inr (0, [.int c_a0_board_askers, .int u_a0_board_places, .int u_a0_board_age, .ref 1002, .ref 1003, .ref 4, .ref 1004]), .inl (1, 2048, .inr (.inl c_a0_memoKeys)), .inl (0, 2048, .inl c_a0_memos), .inl (0, 48, .inl c_a0_board_likes)]
theorem cwz_X2_ordersFrom : CWs (mu_X2_ordersFrom 0) 4 := ⟨⟨all_of 683 (by decide +kernel) (by decide +kernel), all_of 7 (by decide +kernel) (by decide +kernel), by decide +kernel, by decide +kernel, by decide +kernel⟩, all_of 682 (by decide +kernel) (by decide +kernel)⟩
theorem cw_X2_ordersFrom {d : Nat} : CWs (mu_X2_ordersFrom d) 4 := cwz_X2_ordersFrom
abbrev mu_X2_ordersFor : KM := (yX2_ordersFor, cX2_ordersFor, 4, (some .int), { frames := 25, cells := 0, slots := 0, locals := 828 }, [(1000, 9, ro_ORDERS)], [("WishPlaces$Lots", "ORDERS", 1000)])
def w_X2_ordersFor (c_age : Int32) (c_runs : Int64) (c_wanting : Int32) (c_wanted : Int32) (c_answers : Nat → Int32) (c_board_askers : Int32) (c_board_places : Int32) (c_board_age : Int32) (c_memoKeys : Nat → Int64) (c_memos : Nat → Int32) (c_board_likes : Nat → Int32) (c_board_seats : Nat → Int32) (c_board_wishes : Nat → Int32) : List mE := [.inr (2, [.ref 2, .ref 1, .int c_age, .ref 3, .ref 4, .long c_runs, .int c_wanting, .int c_wanted]), .inl (0, 48, .inl c_answers), .inr (0, [.int c_board_askers, .int c_board_places, .int c_board_age, .ref 6, .ref 7, .ref 5, .ref 1001]), .inl (1, 2048, .inr (.inl c_memoKeys)), .inl (0, 2048, .inl c_memos), .inl (0, 48, .inl c_board_likes), .inl (0, 6, .inl c_board_seats), .inl (0, 48, .inl c_board_wishes)]
theorem cw_X2_ordersFor : CWv mu_X2_ordersFor 2 := ⟨⟨all_of 678 (by decide +kernel) (by decide +kernel), all_of 7 (by decide +kernel) (by decide +kernel), by decide +kernel, by decide +kernel, by decide +kernel⟩, all_of 676 (by decide +kernel) (by decide +kernel), all_of 677 (by decide +kernel) (by decide +kernel)⟩
set_option maxRecDepth 20000 in
theorem dX2_takes_0 : decode cX2_takes 0 = .ok (.iconst 0, 1) := by decide +kernel
set_option maxRecDepth 20000 in
theorem dX2_takes_1 : decode cX2_takes 1 = .ok (.istore_n 3, 1) := by decide +kernel
set_option maxRecDepth 20000 in
theorem dX2_takes_2 : decode cX2_takes 2 = .ok (.iload_n 3, 1) := by decide +kernel
set_option maxRecDepth 20000 in
theorem dX2_takes_3 : decode cX2_takes 3 = .ok (.bipush 6, 2) := by decide +kernel
set_option maxRecDepth 20000 in
theorem dX2_takes_5 : decode cX2_takes 5 = .ok (.if_icmp .ge 40, 3) := by decide +kernel
set_option maxRecDepth 20000 in
theorem dX2_takes_8 : decode cX2_takes 8 = .ok (.aload_n 0, 1) := by decide +kernel
set_option maxRecDepth 20000 in
theorem dX2_takes_9 : decode cX2_takes 9 = .ok (.getfield 9, 3) := by decide +kernel
set_option maxRecDepth 20000 in
theorem dX2_takes_12 : decode cX2_takes 12 = .ok (.iload_n 1, 1) := by decide +kernel
set_option maxRecDepth 20000 in
theorem dX2_takes_13 : decode cX2_takes 13 = .ok (.iload_n 3, 1) := by decide +kernel
set_option maxRecDepth 20000 in
theorem dX2_takes_14 : decode cX2_takes 14 = .ok (.invokevirtual 68, 3) := by decide +kernel
set_option maxRecDepth 20000 in
theorem dX2_takes_17 : decode cX2_takes 17 = .ok (.istore 4, 2) := by decide +kernel
set_option maxRecDepth 20000 in
theorem dX2_takes_19 : decode cX2_takes 19 = .ok (.iload 4, 2) := by decide +kernel
set_option maxRecDepth 20000 in
theorem dX2_takes_21 : decode cX2_takes 21 = .ok (.iconst (-1), 1) := by decide +kernel
set_option maxRecDepth 20000 in
theorem dX2_takes_22 : decode cX2_takes 22 = .ok (.if_icmp .eq 14, 3) := by decide +kernel
set_option maxRecDepth 20000 in
theorem dX2_takes_25 : decode cX2_takes 25 = .ok (.iload_n 2, 1) := by decide +kernel
set_option maxRecDepth 20000 in
theorem dX2_takes_26 : decode cX2_takes 26 = .ok (.iconst 2, 1) := by decide +kernel
set_option maxRecDepth 20000 in
theorem dX2_takes_27 : decode cX2_takes 27 = .ok (.iload 4, 2) := by decide +kernel
set_option maxRecDepth 20000 in
theorem dX2_takes_29 : decode cX2_takes 29 = .ok (.imul, 1) := by decide +kernel
set_option maxRecDepth 20000 in
theorem dX2_takes_30 : decode cX2_takes 30 = .ok (.ishr, 1) := by decide +kernel
set_option maxRecDepth 20000 in
theorem dX2_takes_31 : decode cX2_takes 31 = .ok (.iconst 3, 1) := by decide +kernel
set_option maxRecDepth 20000 in
theorem dX2_takes_32 : decode cX2_takes 32 = .ok (.iand, 1) := by decide +kernel
set_option maxRecDepth 20000 in
theorem dX2_takes_33 : decode cX2_takes 33 = .ok (.ifCond .le 6, 3) := by decide +kernel
set_option maxRecDepth 20000 in
theorem dX2_takes_36 : decode cX2_takes 36 = .ok (.iload 4, 2) := by decide +kernel
set_option maxRecDepth 20000 in
theorem dX2_takes_38 : decode cX2_takes 38 = .ok (.ireturn, 1) := by decide +kernel
set_option maxRecDepth 20000 in
theorem dX2_takes_39 : decode cX2_takes 39 = .ok (.iinc 3 1, 3) := by decide +kernel
set_option maxRecDepth 20000 in
theorem dX2_takes_42 : decode cX2_takes 42 = .ok (.goto (-40), 3) := by decide +kernel
set_option maxRecDepth 20000 in
theorem dX2_takes_45 : decode cX2_takes 45 = .ok (.iconst (-1), 1) := by decide +kernel
set_option maxRecDepth 20000 in
theorem dX2_takes_46 : decode cX2_takes 46 = .ok (.ireturn, 1) := by decide +kernel
def f_X2_takes_2 (N : Nat) (c_board_likes : Nat → Int32) : Nat → Int32 → Int32 → Int32 → Option (Int32)
  | 0, _, _, _ => none
  | n + 1, v1, v2, v3 =>
    (if 6 ≤ v3 then
      some (-1 : Int32)
    else
      (f_X0_likeAt N c_board_likes v1 v3).bind fun r2 =>
      (if r2 = (-1 : Int32) then
        some r2
      else
        (if ((v2 >>> ((2 * r2) &&& 31)) &&& (3 : Int32)) ≤ 0 then
          f_X2_takes_2 N c_board_likes n v1 v2 (v3 + 1)
        else
          some r2)))
set_option maxHeartbeats 4000000 in
set_option maxRecDepth 100000 in
theorem g_X2_takes_2 {κ : KC} {ω : KW} {A : Nat → Prop} {ad : Nat → Nat} {u_age : Int32} {u_runs : Int64} {u_wanting : Int32} {u_wanted : Int32} {u_board_askers : Int32} {u_board_places : Int32} {u_board_age : Int32} {N : Nat} {c_board_likes : Nat → Int32}  {res : Int32} : ∀ (n : Nat) {v1 : Int32} {v2 : Int32} {v3 : Int32}, f_X2_takes_2 N c_board_likes n v1 v2 v3 = some res → GG mu_X2_takes κ ω A (QR κ ω A ad (some (.int res)) (w_X2_takes c_board_likes u_age u_runs u_wanting u_wanted u_board_askers u_board_places u_board_age)) ad 0 0 2 (w_X2_takes c_board_likes u_age u_runs u_wanting u_wanted u_board_askers u_board_places u_board_age) [some (.ref 0), some (.int v1), some (.int v2), some (.int v3), none] [] := by
  intro n
  induction n with
  | zero => intro v1 v2 v3 hf; exact ob_0 hf
  | succ n ih =>
    intro v1 v2 v3 hf
    refine G_iload_n dX2_takes_2 rfl rfl ?_
    refine G_bipush 6 dX2_takes_3 (by decide) ?_
    refine G_icmp_ge 45 dX2_takes_5 (by decide) (fun h1 => ?_) (fun h1 => ?_)
    · replace hf := ob_t h1 hf
      refine G_iconst (-1 : Int32) dX2_takes_45 (by decide) ?_
      obtain rfl := os hf
      exact G_ireturn dX2_takes_46 rfl
    · replace hf := ob_f h1 hf
      refine G_aload_n dX2_takes_8 rfl rfl ?_
      refine G_get (v := .ref 1) F_X2_9 dX2_takes_9 rfl rfl ?_
      refine G_iload_n dX2_takes_12 rfl rfl ?_
      refine G_iload_n dX2_takes_13 rfl rfl ?_
      obtain ⟨r2, hc3, hf⟩ := ob hf
      refine G_callV (μ2 := mu_X0_likeAt) (As := [.int v1, .int v3]) (w2 := (w_X2_takes c_board_likes u_age u_runs u_wanting u_wanted u_board_askers u_board_places u_board_age)) (wc := (w_X0_likeAt c_board_likes u_board_askers u_board_places u_board_age)) (wc2 := (w_X0_likeAt c_board_likes u_board_askers u_board_places u_board_age)) (rest := []) (rv := [.int r2]) [1, 2] [1003, 1004, 1005] [0] [0, 1, 2] (c_X0_likeAt hc3) cw_X0_likeAt m_X2_68 dX2_takes_14 rfl ⟨leb rfl, leb rfl⟩ ⟨rfl, rfl⟩ rfl ⟨_, rfl, rfl⟩ (Fit.mk rfl rfl rfl) rfl (leb rfl) (ROsub.nil rfl rfl) rfl ?_
      change GG _ _ _ _ _ _ _ _ _ (w_X2_takes c_board_likes u_age u_runs u_wanting u_wanted u_board_askers u_board_places u_board_age) [some (.ref 0), some (.int v1), some (.int v2), some (.int v3), none] [.int r2]
      refine G_istore dX2_takes_17 (ltb rfl) ?_
      change GG _ _ _ _ _ _ _ _ _ _ [some (.ref 0), some (.int v1), some (.int v2), some (.int v3), some (.int r2)] _
      refine G_iload dX2_takes_19 rfl ?_
      refine G_iconst (-1 : Int32) dX2_takes_21 (by decide) ?_
      refine G_icmp_eq 36 dX2_takes_22 (by decide) (fun h4 => ?_) (fun h4 => ?_)
      · replace hf := ob_t h4 hf
        refine G_iload dX2_takes_36 rfl ?_
        obtain rfl := os hf
        exact G_ireturn dX2_takes_38 rfl
      · replace hf := ob_f h4 hf
        refine G_iload_n dX2_takes_25 rfl rfl ?_
        refine G_iconst 2 dX2_takes_26 (by decide) ?_
        refine G_iload dX2_takes_27 rfl ?_
        refine G_imul dX2_takes_29 ?_
        refine G_ishr dX2_takes_30 ?_
        refine G_iconst 3 dX2_takes_31 (by decide) ?_
        refine G_iand dX2_takes_32 ?_
        refine G_if_le 39 dX2_takes_33 (by decide) (fun h5 => ?_) (fun h5 => ?_)
        · replace hf := ob_t h5 hf
          refine G_iinc 1 dX2_takes_39 (by decide) rfl (ltb rfl) ?_
          change GG _ _ _ _ _ _ _ _ _ _ [some (.ref 0), some (.int v1), some (.int v2), some (.int (v3 + 1)), some (.int r2)] _
          refine G_goto 2 dX2_takes_42 (by decide) ?_
          refine GG.sb (lv2 := [some (.ref 0), some (.int v1), some (.int v2), some (.int (v3 + 1)), none]) ?_ (lvS_v rfl (lvS_v rfl (lvS_v rfl (lvS_v rfl (lvS_n (lvS_e))))))
          exact ih hf
        · replace hf := ob_f h5 hf
          refine G_iload dX2_takes_36 rfl ?_
          obtain rfl := os hf
          exact G_ireturn dX2_takes_38 rfl
def f_X2_takes (N : Nat) (c_board_likes : Nat → Int32) (a1 : Int32) (a2 : Int32) : Option (Int32) :=
  f_X2_takes_2 N c_board_likes N a1 a2 0
set_option maxHeartbeats 4000000 in
set_option maxRecDepth 100000 in
theorem c_X2_takes {N : Nat} {c_board_likes : Nat → Int32}  {u_age : Int32} {u_runs : Int64} {u_wanting : Int32} {u_wanted : Int32} {u_board_askers : Int32} {u_board_places : Int32} {u_board_age : Int32} {a1 : Int32} {a2 : Int32} {res : Int32} (hf : f_X2_takes N c_board_likes a1 a2 = some res) : Con mu_X2_takes [.ref 0, .int a1, .int a2] (w_X2_takes c_board_likes u_age u_runs u_wanting u_wanted u_board_askers u_board_places u_board_age) (some (.int res)) (w_X2_takes c_board_likes u_age u_runs u_wanting u_wanted u_board_askers u_board_places u_board_age) := by
  refine Con.mk (show plainName RX2 = true by decide +kernel) (leb rfl) (fun κ ω A ad => ?_)
  change GG mu_X2_takes κ ω A (QR κ ω A ad (some (.int res)) (w_X2_takes c_board_likes u_age u_runs u_wanting u_wanted u_board_askers u_board_places u_board_age)) ad 0 0 0 (w_X2_takes c_board_likes u_age u_runs u_wanting u_wanted u_board_askers u_board_places u_board_age) [some (.ref 0), some (.int a1), some (.int a2), none, none] []
  refine G_iconst 0 dX2_takes_0 (by decide) ?_
  refine G_istore_n dX2_takes_1 rfl (ltb rfl) ?_
  change GG _ _ _ _ _ _ _ _ _ _ [some (.ref 0), some (.int a1), some (.int a2), some (.int 0), none] _
  exact g_X2_takes_2 N hf
set_option maxRecDepth 20000 in
theorem dX2_ordersAfter_0 : decode cX2_ordersAfter 0 = .ok (.aload_n 0, 1) := by decide +kernel
set_option maxRecDepth 20000 in
theorem dX2_ordersAfter_1 : decode cX2_ordersAfter 1 = .ok (.iload_n 1, 1) := by decide +kernel
set_option maxRecDepth 20000 in
theorem dX2_ordersAfter_2 : decode cX2_ordersAfter 2 = .ok (.iload_n 3, 1) := by decide +kernel
set_option maxRecDepth 20000 in
theorem dX2_ordersAfter_3 : decode cX2_ordersAfter 3 = .ok (.invokevirtual 62, 3) := by decide +kernel
set_option maxRecDepth 20000 in
theorem dX2_ordersAfter_6 : decode cX2_ordersAfter 6 = .ok (.istore 5, 2) := by decide +kernel
set_option maxRecDepth 20000 in
theorem dX2_ordersAfter_8 : decode cX2_ordersAfter 8 = .ok (.iload_n 1, 1) := by decide +kernel
set_option maxRecDepth 20000 in
theorem dX2_ordersAfter_9 : decode cX2_ordersAfter 9 = .ok (.aload_n 0, 1) := by decide +kernel
set_option maxRecDepth 20000 in
theorem dX2_ordersAfter_10 : decode cX2_ordersAfter 10 = .ok (.getfield 33, 3) := by decide +kernel
set_option maxRecDepth 20000 in
theorem dX2_ordersAfter_13 : decode cX2_ordersAfter 13 = .ok (.if_icmp .ne 49, 3) := by decide +kernel
set_option maxRecDepth 20000 in
theorem dX2_ordersAfter_16 : decode cX2_ordersAfter 16 = .ok (.aload_n 0, 1) := by decide +kernel
set_option maxRecDepth 20000 in
theorem dX2_ordersAfter_17 : decode cX2_ordersAfter 17 = .ok (.getfield 9, 3) := by decide +kernel
set_option maxRecDepth 20000 in
theorem dX2_ordersAfter_20 : decode cX2_ordersAfter 20 = .ok (.getfield 55, 3) := by decide +kernel
set_option maxRecDepth 20000 in
theorem dX2_ordersAfter_23 : decode cX2_ordersAfter 23 = .ok (.iload 4, 2) := by decide +kernel
set_option maxRecDepth 20000 in
theorem dX2_ordersAfter_25 : decode cX2_ordersAfter 25 = .ok (.isub, 1) := by decide +kernel
set_option maxRecDepth 20000 in
theorem dX2_ordersAfter_26 : decode cX2_ordersAfter 26 = .ok (.iconst 1, 1) := by decide +kernel
set_option maxRecDepth 20000 in
theorem dX2_ordersAfter_27 : decode cX2_ordersAfter 27 = .ok (.isub, 1) := by decide +kernel
set_option maxRecDepth 20000 in
theorem dX2_ordersAfter_28 : decode cX2_ordersAfter 28 = .ok (.istore 6, 2) := by decide +kernel
set_option maxRecDepth 20000 in
theorem dX2_ordersAfter_30 : decode cX2_ordersAfter 30 = .ok (.iload 5, 2) := by decide +kernel
set_option maxRecDepth 20000 in
theorem dX2_ordersAfter_32 : decode cX2_ordersAfter 32 = .ok (.aload_n 0, 1) := by decide +kernel
set_option maxRecDepth 20000 in
theorem dX2_ordersAfter_33 : decode cX2_ordersAfter 33 = .ok (.getfield 36, 3) := by decide +kernel
set_option maxRecDepth 20000 in
theorem dX2_ordersAfter_36 : decode cX2_ordersAfter 36 = .ok (.if_icmp .ne 24, 3) := by decide +kernel
set_option maxRecDepth 20000 in
theorem dX2_ordersAfter_39 : decode cX2_ordersAfter 39 = .ok (.iload 6, 2) := by decide +kernel
set_option maxRecDepth 20000 in
theorem dX2_ordersAfter_41 : decode cX2_ordersAfter 41 = .ok (.ifCond .lt 19, 3) := by decide +kernel
set_option maxRecDepth 20000 in
theorem dX2_ordersAfter_44 : decode cX2_ordersAfter 44 = .ok (.iload 6, 2) := by decide +kernel
set_option maxRecDepth 20000 in
theorem dX2_ordersAfter_46 : decode cX2_ordersAfter 46 = .ok (.bipush 8, 2) := by decide +kernel
set_option maxRecDepth 20000 in
theorem dX2_ordersAfter_48 : decode cX2_ordersAfter 48 = .ok (.if_icmp .gt 12, 3) := by decide +kernel
set_option maxRecDepth 20000 in
theorem dX2_ordersAfter_51 : decode cX2_ordersAfter 51 = .ok (.getstatic 65, 3) := by decide +kernel
set_option maxRecDepth 20000 in
theorem dX2_ordersAfter_54 : decode cX2_ordersAfter 54 = .ok (.iload 6, 2) := by decide +kernel
set_option maxRecDepth 20000 in
theorem dX2_ordersAfter_56 : decode cX2_ordersAfter 56 = .ok (.iaload, 1) := by decide +kernel
set_option maxRecDepth 20000 in
theorem dX2_ordersAfter_57 : decode cX2_ordersAfter 57 = .ok (.goto 4, 3) := by decide +kernel
set_option maxRecDepth 20000 in
theorem dX2_ordersAfter_60 : decode cX2_ordersAfter 60 = .ok (.iconst 0, 1) := by decide +kernel
set_option maxRecDepth 20000 in
theorem dX2_ordersAfter_61 : decode cX2_ordersAfter 61 = .ok (.ireturn, 1) := by decide +kernel
set_option maxRecDepth 20000 in
theorem dX2_ordersAfter_62 : decode cX2_ordersAfter 62 = .ok (.iload 5, 2) := by decide +kernel
set_option maxRecDepth 20000 in
theorem dX2_ordersAfter_64 : decode cX2_ordersAfter 64 = .ok (.iconst (-1), 1) := by decide +kernel
set_option maxRecDepth 20000 in
theorem dX2_ordersAfter_65 : decode cX2_ordersAfter 65 = .ok (.if_icmp .ne 7, 3) := by decide +kernel
set_option maxRecDepth 20000 in
theorem dX2_ordersAfter_68 : decode cX2_ordersAfter 68 = .ok (.iload_n 3, 1) := by decide +kernel
set_option maxRecDepth 20000 in
theorem dX2_ordersAfter_69 : decode cX2_ordersAfter 69 = .ok (.goto 11, 3) := by decide +kernel
set_option maxRecDepth 20000 in
theorem dX2_ordersAfter_72 : decode cX2_ordersAfter 72 = .ok (.iload_n 3, 1) := by decide +kernel
set_option maxRecDepth 20000 in
theorem dX2_ordersAfter_73 : decode cX2_ordersAfter 73 = .ok (.iconst 1, 1) := by decide +kernel
set_option maxRecDepth 20000 in
theorem dX2_ordersAfter_74 : decode cX2_ordersAfter 74 = .ok (.iconst 2, 1) := by decide +kernel
set_option maxRecDepth 20000 in
theorem dX2_ordersAfter_75 : decode cX2_ordersAfter 75 = .ok (.iload 5, 2) := by decide +kernel
set_option maxRecDepth 20000 in
theorem dX2_ordersAfter_77 : decode cX2_ordersAfter 77 = .ok (.imul, 1) := by decide +kernel
set_option maxRecDepth 20000 in
theorem dX2_ordersAfter_78 : decode cX2_ordersAfter 78 = .ok (.ishl, 1) := by decide +kernel
set_option maxRecDepth 20000 in
theorem dX2_ordersAfter_79 : decode cX2_ordersAfter 79 = .ok (.isub, 1) := by decide +kernel
set_option maxRecDepth 20000 in
theorem dX2_ordersAfter_80 : decode cX2_ordersAfter 80 = .ok (.istore 6, 2) := by decide +kernel
set_option maxRecDepth 20000 in
theorem dX2_ordersAfter_82 : decode cX2_ordersAfter 82 = .ok (.aload_n 0, 1) := by decide +kernel
set_option maxRecDepth 20000 in
theorem dX2_ordersAfter_83 : decode cX2_ordersAfter 83 = .ok (.iload_n 2, 1) := by decide +kernel
set_option maxRecDepth 20000 in
theorem dX2_ordersAfter_84 : decode cX2_ordersAfter 84 = .ok (.iconst 1, 1) := by decide +kernel
set_option maxRecDepth 20000 in
theorem dX2_ordersAfter_85 : decode cX2_ordersAfter 85 = .ok (.iload_n 1, 1) := by decide +kernel
set_option maxRecDepth 20000 in
theorem dX2_ordersAfter_86 : decode cX2_ordersAfter 86 = .ok (.ishl, 1) := by decide +kernel
set_option maxRecDepth 20000 in
theorem dX2_ordersAfter_87 : decode cX2_ordersAfter 87 = .ok (.ior, 1) := by decide +kernel
set_option maxRecDepth 20000 in
theorem dX2_ordersAfter_88 : decode cX2_ordersAfter 88 = .ok (.iload 6, 2) := by decide +kernel
set_option maxRecDepth 20000 in
theorem dX2_ordersAfter_90 : decode cX2_ordersAfter 90 = .ok (.iload 4, 2) := by decide +kernel
set_option maxRecDepth 20000 in
theorem dX2_ordersAfter_92 : decode cX2_ordersAfter 92 = .ok (.iconst 1, 1) := by decide +kernel
set_option maxRecDepth 20000 in
theorem dX2_ordersAfter_93 : decode cX2_ordersAfter 93 = .ok (.iadd, 1) := by decide +kernel
set_option maxRecDepth 20000 in
theorem dX2_ordersAfter_94 : decode cX2_ordersAfter 94 = .ok (.invokestatic 51, 3) := by decide +kernel
set_option maxRecDepth 20000 in
theorem dX2_ordersAfter_97 : decode cX2_ordersAfter 97 = .ok (.ireturn, 1) := by decide +kernel
def f_X2_ordersAfter_80 (N : Nat) (rc : Int64 → Int32 → Int32 → Int32 → (Nat → Int32) → (Nat → Int64) → (Nat → Int32) → Int32 → Int32 → Int32 → Option (Int32 × (Nat → Int64) × (Nat → Int32))) (c_a0_runs : Int64) (c_a0_wanting : Int32) (c_a0_wanted : Int32) (c_a0_board_askers : Int32) (c_a0_board_likes : Nat → Int32) (c_a0_memoKeys : Nat → Int64) (c_a0_memos : Nat → Int32) (v1 : Int32) (v2 : Int32) (v4 : Int32) (s0 : Int32) : Option (Int32 × (Nat → Int64) × (Nat → Int32)) :=
    (rc c_a0_runs c_a0_wanting c_a0_wanted c_a0_board_askers c_a0_board_likes c_a0_memoKeys c_a0_memos (v2 ||| ((1 : Int32) <<< (v1 &&& 31))) s0 (v4 + 1)).bind fun (r1, o2, o3) =>
    some (r1, o2, o3)
set_option maxHeartbeats 4000000 in
set_option maxRecDepth 100000 in
theorem g_X2_ordersAfter_80 {κ : KC} {ω : KW} {A : Nat → Prop} {ad : Nat → Nat} {u_a0_age : Int32} {u_a0_board_places : Int32} {u_a0_board_age : Int32} {N : Nat} {c_a0_runs : Int64} {c_a0_wanting : Int32} {c_a0_wanted : Int32} {c_a0_board_askers : Int32} {c_a0_board_likes : Nat → Int32} {d : Nat}  {rc : Int64 → Int32 → Int32 → Int32 → (Nat → Int32) → (Nat → Int64) → (Nat → Int32) → Int32 → Int32 → Int32 → Option (Int32 × (Nat → Int64) × (Nat → Int32))} {res : Int32 × (Nat → Int64) × (Nat → Int32)} (hrc : ∀ {c_a0_runs : Int64} {c_a0_wanting : Int32} {c_a0_wanted : Int32} {c_a0_board_askers : Int32} {c_a0_memoKeys : Nat → Int64} {c_a0_memos : Nat → Int32} {c_a0_board_likes : Nat → Int32} {u_a0_age : Int32} {u_a0_board_places : Int32} {u_a0_board_age : Int32} {a1 : Int32} {a2 : Int32} {a3 : Int32} {rr : Int32 × (Nat → Int64) × (Nat → Int32)}, rc c_a0_runs c_a0_wanting c_a0_wanted c_a0_board_askers c_a0_board_likes c_a0_memoKeys c_a0_memos a1 a2 a3 = some rr → Con (mu_X2_ordersFrom d) [.ref 0, .int a1, .int a2, .int a3] (w_X2_ordersFrom c_a0_runs c_a0_wanting c_a0_wanted c_a0_board_askers c_a0_memoKeys c_a0_memos c_a0_board_likes u_a0_age u_a0_board_places u_a0_board_age) (some (.int rr.1)) (w_X2_ordersFrom c_a0_runs c_a0_wanting c_a0_wanted c_a0_board_askers rr.2.1 rr.2.2 c_a0_board_likes u_a0_age u_a0_board_places u_a0_board_age)) {c_a0_memoKeys : Nat → Int64} {c_a0_memos : Nat → Int32} {v1 : Int32} {v2 : Int32} {v4 : Int32} {s0 : Int32} (hf : f_X2_ordersAfter_80 N rc c_a0_runs c_a0_wanting c_a0_wanted c_a0_board_askers c_a0_board_likes c_a0_memoKeys c_a0_memos v1 v2 v4 s0 = some res) : GG (mu_X2_ordersAfter d) κ ω A (QR κ ω A ad (some (.int res.1)) (w_X2_ordersAfter c_a0_runs c_a0_wanting c_a0_wanted c_a0_board_askers res.2.1 res.2.2 c_a0_board_likes u_a0_age u_a0_board_places u_a0_board_age)) ad 0 0 80 (w_X2_ordersAfter c_a0_runs c_a0_wanting c_a0_wanted c_a0_board_askers c_a0_memoKeys c_a0_memos c_a0_board_likes u_a0_age u_a0_board_places u_a0_board_age) [some (.ref 0), some (.int v1), some (.int v2), none, some (.int v4), none, none] [.int s0] := by
  refine G_istore dX2_ordersAfter_80 (ltb rfl) ?_
  change GG _ _ _ _ _ _ _ _ _ _ [some (.ref 0), some (.int v1), some (.int v2), none, some (.int v4), none, some (.int s0)] _
  refine G_aload_n dX2_ordersAfter_82 rfl rfl ?_
  refine G_iload_n dX2_ordersAfter_83 rfl rfl ?_
  refine G_iconst 1 dX2_ordersAfter_84 (by decide) ?_
  refine G_iload_n dX2_ordersAfter_85 rfl rfl ?_
  refine G_ishl dX2_ordersAfter_86 ?_
  refine G_ior dX2_ordersAfter_87 ?_
  refine G_iload dX2_ordersAfter_88 rfl ?_
  refine G_iload dX2_ordersAfter_90 rfl ?_
  refine G_iconst 1 dX2_ordersAfter_92 (by decide) ?_
  refine G_iadd dX2_ordersAfter_93 ?_
  obtain ⟨⟨r1, o2, o3⟩, hc4, hf⟩ := ob hf
  refine G_callS (μ2 := (mu_X2_ordersFrom d)) (As := [.ref 0, .int (v2 ||| ((1 : Int32) <<< (v1 &&& 31))), .int s0, .int (v4 + 1)]) (w2 := (w_X2_ordersAfter c_a0_runs c_a0_wanting c_a0_wanted c_a0_board_askers o2 o3 c_a0_board_likes u_a0_age u_a0_board_places u_a0_board_age)) (wc := (w_X2_ordersFrom c_a0_runs c_a0_wanting c_a0_wanted c_a0_board_askers c_a0_memoKeys c_a0_memos c_a0_board_likes u_a0_age u_a0_board_places u_a0_board_age)) (wc2 := (w_X2_ordersFrom c_a0_runs c_a0_wanting c_a0_wanted c_a0_board_askers o2 o3 c_a0_board_likes u_a0_age u_a0_board_places u_a0_board_age)) (rest := []) (rv := [.int r1]) [0, 1, 2, 3, 4] [1000, 1001, 1002, 1003, 1004] [] [0, 1, 2, 3, 4] (hrc hc4) cw_X2_ordersFrom m_X2_51 rfl dX2_ordersAfter_94 rfl (by constructor <;> simp [mu_X2_ordersAfter, mu_X2_ordersFrom] <;> omega) ⟨rfl, rfl⟩ (Fit.mk rfl rfl rfl) rfl (leb rfl) ⟨(List.forall_mem_cons.mpr ⟨⟨_, List.mem_of_getElem? (i := 0) rfl, rfl, rfl⟩, (fun _ h => absurd h List.not_mem_nil)⟩), (List.forall_mem_cons.mpr ⟨⟨_, List.mem_of_getElem? (i := 0) rfl, rfl, rfl, rfl⟩, (fun _ h => absurd h List.not_mem_nil)⟩)⟩ rfl ?_
  change GG _ _ _ _ _ _ _ _ _ (w_X2_ordersAfter c_a0_runs c_a0_wanting c_a0_wanted c_a0_board_askers o2 o3 c_a0_board_likes u_a0_age u_a0_board_places u_a0_board_age) [some (.ref 0), some (.int v1), some (.int v2), none, some (.int v4), none, some (.int s0)] [.int r1]
  obtain rfl := os hf
  exact G_ireturn dX2_ordersAfter_97 rfl
def f_X2_ordersAfter (N : Nat) (rc : Int64 → Int32 → Int32 → Int32 → (Nat → Int32) → (Nat → Int64) → (Nat → Int32) → Int32 → Int32 → Int32 → Option (Int32 × (Nat → Int64) × (Nat → Int32))) (c_a0_runs : Int64) (c_a0_wanting : Int32) (c_a0_wanted : Int32) (c_a0_board_askers : Int32) (c_a0_board_likes : Nat → Int32) (c_a0_memoKeys : Nat → Int64) (c_a0_memos : Nat → Int32) (a1 : Int32) (a2 : Int32) (a3 : Int32) (a4 : Int32) : Option (Int32 × (Nat → Int64) × (Nat → Int32)) :=
  (f_X2_takes N c_a0_board_likes a1 a3).bind fun r1 =>
  (if a1 = c_a0_wanting then
    (if r1 = c_a0_wanted then
      (if ((c_a0_board_askers - a4) - 1) < 0 then
        some (0, c_a0_memoKeys, c_a0_memos)
      else
        (if 8 < ((c_a0_board_askers - a4) - 1) then
          some (0, c_a0_memoKeys, c_a0_memos)
        else
          (rdI 9 ro_ORDERS ((c_a0_board_askers - a4) - 1)).bind fun t8 =>
          some (t8, c_a0_memoKeys, c_a0_memos)))
    else
      some (0, c_a0_memoKeys, c_a0_memos))
  else
    (if r1 = (-1 : Int32) then
      f_X2_ordersAfter_80 N rc c_a0_runs c_a0_wanting c_a0_wanted c_a0_board_askers c_a0_board_likes c_a0_memoKeys c_a0_memos a1 a2 a4 a3
    else
      f_X2_ordersAfter_80 N rc c_a0_runs c_a0_wanting c_a0_wanted c_a0_board_askers c_a0_board_likes c_a0_memoKeys c_a0_memos a1 a2 a4 (a3 - ((1 : Int32) <<< ((2 * r1) &&& 31)))))
set_option maxHeartbeats 4000000 in
set_option maxRecDepth 100000 in
theorem c_X2_ordersAfter {N : Nat} {d : Nat} {rc : Int64 → Int32 → Int32 → Int32 → (Nat → Int32) → (Nat → Int64) → (Nat → Int32) → Int32 → Int32 → Int32 → Option (Int32 × (Nat → Int64) × (Nat → Int32))} {c_a0_runs : Int64} {c_a0_wanting : Int32} {c_a0_wanted : Int32} {c_a0_board_askers : Int32} {c_a0_board_likes : Nat → Int32} {c_a0_memoKeys : Nat → Int64} {c_a0_memos : Nat → Int32} {u_a0_age : Int32} {u_a0_board_places : Int32} {u_a0_board_age : Int32} {a1 : Int32} {a2 : Int32} {a3 : Int32} {a4 : Int32} {res : Int32 × (Nat → Int64) × (Nat → Int32)} (hrc : ∀ {c_a0_runs : Int64} {c_a0_wanting : Int32} {c_a0_wanted : Int32} {c_a0_board_askers : Int32} {c_a0_memoKeys : Nat → Int64} {c_a0_memos : Nat → Int32} {c_a0_board_likes : Nat → Int32} {u_a0_age : Int32} {u_a0_board_places : Int32} {u_a0_board_age : Int32} {a1 : Int32} {a2 : Int32} {a3 : Int32} {rr : Int32 × (Nat → Int64) × (Nat → Int32)}, rc c_a0_runs c_a0_wanting c_a0_wanted c_a0_board_askers c_a0_board_likes c_a0_memoKeys c_a0_memos a1 a2 a3 = some rr → Con (mu_X2_ordersFrom d) [.ref 0, .int a1, .int a2, .int a3] (w_X2_ordersFrom c_a0_runs c_a0_wanting c_a0_wanted c_a0_board_askers c_a0_memoKeys c_a0_memos c_a0_board_likes u_a0_age u_a0_board_places u_a0_board_age) (some (.int rr.1)) (w_X2_ordersFrom c_a0_runs c_a0_wanting c_a0_wanted c_a0_board_askers rr.2.1 rr.2.2 c_a0_board_likes u_a0_age u_a0_board_places u_a0_board_age)) (hf : f_X2_ordersAfter N rc c_a0_runs c_a0_wanting c_a0_wanted c_a0_board_askers c_a0_board_likes c_a0_memoKeys c_a0_memos a1 a2 a3 a4 = some res) : Con (mu_X2_ordersAfter d) [.ref 0, .int a1, .int a2, .int a3, .int a4] (w_X2_ordersAfter c_a0_runs c_a0_wanting c_a0_wanted c_a0_board_askers c_a0_memoKeys c_a0_memos c_a0_board_likes u_a0_age u_a0_board_places u_a0_board_age) (some (.int res.1)) (w_X2_ordersAfter c_a0_runs c_a0_wanting c_a0_wanted c_a0_board_askers res.2.1 res.2.2 c_a0_board_likes u_a0_age u_a0_board_places u_a0_board_age) := by
  refine Con.mk (show plainName RX2 = true by decide +kernel) (leb rfl) (fun κ ω A ad => ?_)
  change GG (mu_X2_ordersAfter d) κ ω A (QR κ ω A ad (some (.int res.1)) (w_X2_ordersAfter c_a0_runs c_a0_wanting c_a0_wanted c_a0_board_askers res.2.1 res.2.2 c_a0_board_likes u_a0_age u_a0_board_places u_a0_board_age)) ad 0 0 0 (w_X2_ordersAfter c_a0_runs c_a0_wanting c_a0_wanted c_a0_board_askers c_a0_memoKeys c_a0_memos c_a0_board_likes u_a0_age u_a0_board_places u_a0_board_age) [some (.ref 0), some (.int a1), some (.int a2), some (.int a3), some (.int a4), none, none] []
  refine G_aload_n dX2_ordersAfter_0 rfl rfl ?_
  refine G_iload_n dX2_ordersAfter_1 rfl rfl ?_
  refine G_iload_n dX2_ordersAfter_2 rfl rfl ?_
  obtain ⟨r1, hc2, hf⟩ := ob hf
  refine G_callV (μ2 := mu_X2_takes) (As := [.int a1, .int a3]) (w2 := (w_X2_ordersAfter c_a0_runs c_a0_wanting c_a0_wanted c_a0_board_askers c_a0_memoKeys c_a0_memos c_a0_board_likes u_a0_age u_a0_board_places u_a0_board_age)) (wc := (w_X2_takes c_a0_board_likes u_a0_age c_a0_runs c_a0_wanting c_a0_wanted c_a0_board_askers u_a0_board_places u_a0_board_age)) (wc2 := (w_X2_takes c_a0_board_likes u_a0_age c_a0_runs c_a0_wanting c_a0_wanted c_a0_board_askers u_a0_board_places u_a0_board_age)) (rest := []) (rv := [.int r1]) [0, 1, 4] [1001, 2, 3, 1002, 1003, 1004] [2, 3] [2, 3, 0, 1, 4] (c_X2_takes hc2) cw_X2_takes m_X2_62 dX2_ordersAfter_3 rfl (by constructor <;> simp [mu_X2_ordersAfter, mu_X2_takes] <;> omega) ⟨rfl, rfl⟩ rfl ⟨_, rfl, rfl⟩ (Fit.mk rfl rfl rfl) rfl (leb rfl) (ROsub.nil rfl rfl) rfl ?_
  change GG _ _ _ _ _ _ _ _ _ (w_X2_ordersAfter c_a0_runs c_a0_wanting c_a0_wanted c_a0_board_askers c_a0_memoKeys c_a0_memos c_a0_board_likes u_a0_age u_a0_board_places u_a0_board_age) [some (.ref 0), some (.int a1), some (.int a2), some (.int a3), some (.int a4), none, none] [.int r1]
  refine G_istore dX2_ordersAfter_6 (ltb rfl) ?_
  change GG _ _ _ _ _ _ _ _ _ _ [some (.ref 0), some (.int a1), some (.int a2), some (.int a3), some (.int a4), some (.int r1), none] _
  refine G_iload_n dX2_ordersAfter_8 rfl rfl ?_
  refine G_aload_n dX2_ordersAfter_9 rfl rfl ?_
  refine G_get (v := .int c_a0_wanting) F_X2_33 dX2_ordersAfter_10 rfl rfl ?_
  refine G_icmp_ne 62 dX2_ordersAfter_13 (by decide) (fun h3 => ?_) (fun h3 => ?_)
  · replace hf := ob_f h3 hf
    refine G_iload dX2_ordersAfter_62 rfl ?_
    refine G_iconst (-1 : Int32) dX2_ordersAfter_64 (by decide) ?_
    refine G_icmp_ne 72 dX2_ordersAfter_65 (by decide) (fun h4 => ?_) (fun h4 => ?_)
    · replace hf := ob_f h4 hf
      refine G_iload_n dX2_ordersAfter_72 rfl rfl ?_
      refine G_iconst 1 dX2_ordersAfter_73 (by decide) ?_
      refine G_iconst 2 dX2_ordersAfter_74 (by decide) ?_
      refine G_iload dX2_ordersAfter_75 rfl ?_
      refine G_imul dX2_ordersAfter_77 ?_
      refine G_ishl dX2_ordersAfter_78 ?_
      refine G_isub dX2_ordersAfter_79 ?_
      refine GG.sb (lv2 := [some (.ref 0), some (.int a1), some (.int a2), none, some (.int a4), none, none]) ?_ (lvS_v rfl (lvS_v rfl (lvS_v rfl (lvS_n (lvS_v rfl (lvS_n (lvS_n (lvS_e))))))))
      exact g_X2_ordersAfter_80 hrc hf
    · replace hf := ob_t h4 hf
      refine G_iload_n dX2_ordersAfter_68 rfl rfl ?_
      refine G_goto 80 dX2_ordersAfter_69 (by decide) ?_
      refine GG.sb (lv2 := [some (.ref 0), some (.int a1), some (.int a2), none, some (.int a4), none, none]) ?_ (lvS_v rfl (lvS_v rfl (lvS_v rfl (lvS_n (lvS_v rfl (lvS_n (lvS_n (lvS_e))))))))
      exact g_X2_ordersAfter_80 hrc hf
  · replace hf := ob_t h3 hf
    refine G_aload_n dX2_ordersAfter_16 rfl rfl ?_
    refine G_get (v := .ref 1) F_X2_9 dX2_ordersAfter_17 rfl rfl ?_
    refine G_get (v := .int c_a0_board_askers) F_X2_55 dX2_ordersAfter_20 rfl rfl ?_
    refine G_iload dX2_ordersAfter_23 rfl ?_
    refine G_isub dX2_ordersAfter_25 ?_
    refine G_iconst 1 dX2_ordersAfter_26 (by decide) ?_
    refine G_isub dX2_ordersAfter_27 ?_
    refine G_istore dX2_ordersAfter_28 (ltb rfl) ?_
    change GG _ _ _ _ _ _ _ _ _ _ [some (.ref 0), some (.int a1), some (.int a2), some (.int a3), some (.int a4), some (.int r1), some (.int ((c_a0_board_askers - a4) - 1))] _
    refine G_iload dX2_ordersAfter_30 rfl ?_
    refine G_aload_n dX2_ordersAfter_32 rfl rfl ?_
    refine G_get (v := .int c_a0_wanted) F_X2_36 dX2_ordersAfter_33 rfl rfl ?_
    refine G_icmp_ne 60 dX2_ordersAfter_36 (by decide) (fun h5 => ?_) (fun h5 => ?_)
    · replace hf := ob_f h5 hf
      refine G_iconst 0 dX2_ordersAfter_60 (by decide) ?_
      obtain rfl := os hf
      exact G_ireturn dX2_ordersAfter_61 rfl
    · replace hf := ob_t h5 hf
      refine G_iload dX2_ordersAfter_39 rfl ?_
      refine G_if_lt 60 dX2_ordersAfter_41 (by decide) (fun h6 => ?_) (fun h6 => ?_)
      · replace hf := ob_t h6 hf
        refine G_iconst 0 dX2_ordersAfter_60 (by decide) ?_
        obtain rfl := os hf
        exact G_ireturn dX2_ordersAfter_61 rfl
      · replace hf := ob_f h6 hf
        refine G_iload dX2_ordersAfter_44 rfl ?_
        refine G_bipush 8 dX2_ordersAfter_46 (by decide) ?_
        refine G_icmp_gt 60 dX2_ordersAfter_48 (by decide) (fun h7 => ?_) (fun h7 => ?_)
        · replace hf := ob_t h7 hf
          refine G_iconst 0 dX2_ordersAfter_60 (by decide) ?_
          obtain rfl := os hf
          exact G_ireturn dX2_ordersAfter_61 rfl
        · replace hf := ob_f h7 hf
          refine G_gets (C := "WishPlaces$Lots") (n := "ORDERS") (z := 1000) dX2_ordersAfter_51 (List.mem_of_getElem? (i := 0) rfl) s_X2_65 ?_
          refine G_iload dX2_ordersAfter_54 rfl ?_
          obtain ⟨t8, ht8, hf⟩ := ob hf
          refine G_tald dX2_ordersAfter_56 (List.mem_of_getElem? (i := 0) rfl) ht8 ?_
          refine G_goto 61 dX2_ordersAfter_57 (by decide) ?_
          obtain rfl := os hf
          exact G_ireturn dX2_ordersAfter_61 rfl
set_option maxRecDepth 20000 in
theorem dX2_ordersFrom_0 : decode cX2_ordersFrom 0 = .ok (.iload_n 3, 1) := by decide +kernel
set_option maxRecDepth 20000 in
theorem dX2_ordersFrom_1 : decode cX2_ordersFrom 1 = .ok (.bipush 8, 2) := by decide +kernel
set_option maxRecDepth 20000 in
theorem dX2_ordersFrom_3 : decode cX2_ordersFrom 3 = .ok (.if_icmp .ge 16, 3) := by decide +kernel
set_option maxRecDepth 20000 in
theorem dX2_ordersFrom_6 : decode cX2_ordersFrom 6 = .ok (.iload_n 2, 1) := by decide +kernel
set_option maxRecDepth 20000 in
theorem dX2_ordersFrom_7 : decode cX2_ordersFrom 7 = .ok (.iconst 2, 1) := by decide +kernel
set_option maxRecDepth 20000 in
theorem dX2_ordersFrom_8 : decode cX2_ordersFrom 8 = .ok (.aload_n 0, 1) := by decide +kernel
set_option maxRecDepth 20000 in
theorem dX2_ordersFrom_9 : decode cX2_ordersFrom 9 = .ok (.getfield 36, 3) := by decide +kernel
set_option maxRecDepth 20000 in
theorem dX2_ordersFrom_12 : decode cX2_ordersFrom 12 = .ok (.imul, 1) := by decide +kernel
set_option maxRecDepth 20000 in
theorem dX2_ordersFrom_13 : decode cX2_ordersFrom 13 = .ok (.ishr, 1) := by decide +kernel
set_option maxRecDepth 20000 in
theorem dX2_ordersFrom_14 : decode cX2_ordersFrom 14 = .ok (.iconst 3, 1) := by decide +kernel
set_option maxRecDepth 20000 in
theorem dX2_ordersFrom_15 : decode cX2_ordersFrom 15 = .ok (.iand, 1) := by decide +kernel
set_option maxRecDepth 20000 in
theorem dX2_ordersFrom_16 : decode cX2_ordersFrom 16 = .ok (.ifCond .ne 5, 3) := by decide +kernel
set_option maxRecDepth 20000 in
theorem dX2_ordersFrom_19 : decode cX2_ordersFrom 19 = .ok (.iconst 0, 1) := by decide +kernel
set_option maxRecDepth 20000 in
theorem dX2_ordersFrom_20 : decode cX2_ordersFrom 20 = .ok (.ireturn, 1) := by decide +kernel
set_option maxRecDepth 20000 in
theorem dX2_ordersFrom_21 : decode cX2_ordersFrom 21 = .ok (.iload_n 1, 1) := by decide +kernel
set_option maxRecDepth 20000 in
theorem dX2_ordersFrom_22 : decode cX2_ordersFrom 22 = .ok (.bipush 113, 2) := by decide +kernel
set_option maxRecDepth 20000 in
theorem dX2_ordersFrom_24 : decode cX2_ordersFrom 24 = .ok (.imul, 1) := by decide +kernel
set_option maxRecDepth 20000 in
theorem dX2_ordersFrom_25 : decode cX2_ordersFrom 25 = .ok (.iload_n 2, 1) := by decide +kernel
set_option maxRecDepth 20000 in
theorem dX2_ordersFrom_26 : decode cX2_ordersFrom 26 = .ok (.bipush 37, 2) := by decide +kernel
set_option maxRecDepth 20000 in
theorem dX2_ordersFrom_28 : decode cX2_ordersFrom 28 = .ok (.imul, 1) := by decide +kernel
set_option maxRecDepth 20000 in
theorem dX2_ordersFrom_29 : decode cX2_ordersFrom 29 = .ok (.iadd, 1) := by decide +kernel
set_option maxRecDepth 20000 in
theorem dX2_ordersFrom_30 : decode cX2_ordersFrom 30 = .ok (.sipush 2047, 3) := by decide +kernel
set_option maxRecDepth 20000 in
theorem dX2_ordersFrom_33 : decode cX2_ordersFrom 33 = .ok (.iand, 1) := by decide +kernel
set_option maxRecDepth 20000 in
theorem dX2_ordersFrom_34 : decode cX2_ordersFrom 34 = .ok (.istore 4, 2) := by decide +kernel
set_option maxRecDepth 20000 in
theorem dX2_ordersFrom_36 : decode cX2_ordersFrom 36 = .ok (.aload_n 0, 1) := by decide +kernel
set_option maxRecDepth 20000 in
theorem dX2_ordersFrom_37 : decode cX2_ordersFrom 37 = .ok (.getfield 39, 3) := by decide +kernel
set_option maxRecDepth 20000 in
theorem dX2_ordersFrom_40 : decode cX2_ordersFrom 40 = .ok (.bipush 20, 2) := by decide +kernel
set_option maxRecDepth 20000 in
theorem dX2_ordersFrom_42 : decode cX2_ordersFrom 42 = .ok (.lshl, 1) := by decide +kernel
set_option maxRecDepth 20000 in
theorem dX2_ordersFrom_43 : decode cX2_ordersFrom 43 = .ok (.iload_n 1, 1) := by decide +kernel
set_option maxRecDepth 20000 in
theorem dX2_ordersFrom_44 : decode cX2_ordersFrom 44 = .ok (.bipush 12, 2) := by decide +kernel
set_option maxRecDepth 20000 in
theorem dX2_ordersFrom_46 : decode cX2_ordersFrom 46 = .ok (.ishl, 1) := by decide +kernel
set_option maxRecDepth 20000 in
theorem dX2_ordersFrom_47 : decode cX2_ordersFrom 47 = .ok (.i2l, 1) := by decide +kernel
set_option maxRecDepth 20000 in
theorem dX2_ordersFrom_48 : decode cX2_ordersFrom 48 = .ok (.lor, 1) := by decide +kernel
set_option maxRecDepth 20000 in
theorem dX2_ordersFrom_49 : decode cX2_ordersFrom 49 = .ok (.iload_n 2, 1) := by decide +kernel
set_option maxRecDepth 20000 in
theorem dX2_ordersFrom_50 : decode cX2_ordersFrom 50 = .ok (.i2l, 1) := by decide +kernel
set_option maxRecDepth 20000 in
theorem dX2_ordersFrom_51 : decode cX2_ordersFrom 51 = .ok (.lor, 1) := by decide +kernel
set_option maxRecDepth 20000 in
theorem dX2_ordersFrom_52 : decode cX2_ordersFrom 52 = .ok (.lstore 5, 2) := by decide +kernel
set_option maxRecDepth 20000 in
theorem dX2_ordersFrom_54 : decode cX2_ordersFrom 54 = .ok (.aload_n 0, 1) := by decide +kernel
set_option maxRecDepth 20000 in
theorem dX2_ordersFrom_55 : decode cX2_ordersFrom 55 = .ok (.getfield 19, 3) := by decide +kernel
set_option maxRecDepth 20000 in
theorem dX2_ordersFrom_58 : decode cX2_ordersFrom 58 = .ok (.iload 4, 2) := by decide +kernel
set_option maxRecDepth 20000 in
theorem dX2_ordersFrom_60 : decode cX2_ordersFrom 60 = .ok (.laload, 1) := by decide +kernel
set_option maxRecDepth 20000 in
theorem dX2_ordersFrom_61 : decode cX2_ordersFrom 61 = .ok (.lload 5, 2) := by decide +kernel
set_option maxRecDepth 20000 in
theorem dX2_ordersFrom_63 : decode cX2_ordersFrom 63 = .ok (.lcmp, 1) := by decide +kernel
set_option maxRecDepth 20000 in
theorem dX2_ordersFrom_64 : decode cX2_ordersFrom 64 = .ok (.ifCond .ne 11, 3) := by decide +kernel
set_option maxRecDepth 20000 in
theorem dX2_ordersFrom_67 : decode cX2_ordersFrom 67 = .ok (.aload_n 0, 1) := by decide +kernel
set_option maxRecDepth 20000 in
theorem dX2_ordersFrom_68 : decode cX2_ordersFrom 68 = .ok (.getfield 23, 3) := by decide +kernel
set_option maxRecDepth 20000 in
theorem dX2_ordersFrom_71 : decode cX2_ordersFrom 71 = .ok (.iload 4, 2) := by decide +kernel
set_option maxRecDepth 20000 in
theorem dX2_ordersFrom_73 : decode cX2_ordersFrom 73 = .ok (.iaload, 1) := by decide +kernel
set_option maxRecDepth 20000 in
theorem dX2_ordersFrom_74 : decode cX2_ordersFrom 74 = .ok (.ireturn, 1) := by decide +kernel
set_option maxRecDepth 20000 in
theorem dX2_ordersFrom_75 : decode cX2_ordersFrom 75 = .ok (.iconst 0, 1) := by decide +kernel
set_option maxRecDepth 20000 in
theorem dX2_ordersFrom_76 : decode cX2_ordersFrom 76 = .ok (.istore 7, 2) := by decide +kernel
set_option maxRecDepth 20000 in
theorem dX2_ordersFrom_78 : decode cX2_ordersFrom 78 = .ok (.iconst 0, 1) := by decide +kernel
set_option maxRecDepth 20000 in
theorem dX2_ordersFrom_79 : decode cX2_ordersFrom 79 = .ok (.istore 8, 2) := by decide +kernel
set_option maxRecDepth 20000 in
theorem dX2_ordersFrom_81 : decode cX2_ordersFrom 81 = .ok (.iload 8, 2) := by decide +kernel
set_option maxRecDepth 20000 in
theorem dX2_ordersFrom_83 : decode cX2_ordersFrom 83 = .ok (.aload_n 0, 1) := by decide +kernel
set_option maxRecDepth 20000 in
theorem dX2_ordersFrom_84 : decode cX2_ordersFrom 84 = .ok (.getfield 9, 3) := by decide +kernel
set_option maxRecDepth 20000 in
theorem dX2_ordersFrom_87 : decode cX2_ordersFrom 87 = .ok (.getfield 55, 3) := by decide +kernel
set_option maxRecDepth 20000 in
theorem dX2_ordersFrom_90 : decode cX2_ordersFrom 90 = .ok (.if_icmp .ge 32, 3) := by decide +kernel
set_option maxRecDepth 20000 in
theorem dX2_ordersFrom_93 : decode cX2_ordersFrom 93 = .ok (.iload_n 1, 1) := by decide +kernel
set_option maxRecDepth 20000 in
theorem dX2_ordersFrom_94 : decode cX2_ordersFrom 94 = .ok (.iload 8, 2) := by decide +kernel
set_option maxRecDepth 20000 in
theorem dX2_ordersFrom_96 : decode cX2_ordersFrom 96 = .ok (.ishr, 1) := by decide +kernel
set_option maxRecDepth 20000 in
theorem dX2_ordersFrom_97 : decode cX2_ordersFrom 97 = .ok (.iconst 1, 1) := by decide +kernel
set_option maxRecDepth 20000 in
theorem dX2_ordersFrom_98 : decode cX2_ordersFrom 98 = .ok (.iand, 1) := by decide +kernel
set_option maxRecDepth 20000 in
theorem dX2_ordersFrom_99 : decode cX2_ordersFrom 99 = .ok (.ifCond .ne 17, 3) := by decide +kernel
set_option maxRecDepth 20000 in
theorem dX2_ordersFrom_102 : decode cX2_ordersFrom 102 = .ok (.iload 7, 2) := by decide +kernel
set_option maxRecDepth 20000 in
theorem dX2_ordersFrom_104 : decode cX2_ordersFrom 104 = .ok (.aload_n 0, 1) := by decide +kernel
set_option maxRecDepth 20000 in
theorem dX2_ordersFrom_105 : decode cX2_ordersFrom 105 = .ok (.iload 8, 2) := by decide +kernel
set_option maxRecDepth 20000 in
theorem dX2_ordersFrom_107 : decode cX2_ordersFrom 107 = .ok (.iload_n 1, 1) := by decide +kernel
set_option maxRecDepth 20000 in
theorem dX2_ordersFrom_108 : decode cX2_ordersFrom 108 = .ok (.iload_n 2, 1) := by decide +kernel
set_option maxRecDepth 20000 in
theorem dX2_ordersFrom_109 : decode cX2_ordersFrom 109 = .ok (.iload_n 3, 1) := by decide +kernel
set_option maxRecDepth 20000 in
theorem dX2_ordersFrom_110 : decode cX2_ordersFrom 110 = .ok (.invokestatic 58, 3) := by decide +kernel
set_option maxRecDepth 20000 in
theorem dX2_ordersFrom_113 : decode cX2_ordersFrom 113 = .ok (.iadd, 1) := by decide +kernel
set_option maxRecDepth 20000 in
theorem dX2_ordersFrom_114 : decode cX2_ordersFrom 114 = .ok (.istore 7, 2) := by decide +kernel
set_option maxRecDepth 20000 in
theorem dX2_ordersFrom_116 : decode cX2_ordersFrom 116 = .ok (.iinc 8 1, 3) := by decide +kernel
set_option maxRecDepth 20000 in
theorem dX2_ordersFrom_119 : decode cX2_ordersFrom 119 = .ok (.goto (-38), 3) := by decide +kernel
set_option maxRecDepth 20000 in
theorem dX2_ordersFrom_122 : decode cX2_ordersFrom 122 = .ok (.aload_n 0, 1) := by decide +kernel
set_option maxRecDepth 20000 in
theorem dX2_ordersFrom_123 : decode cX2_ordersFrom 123 = .ok (.getfield 19, 3) := by decide +kernel
set_option maxRecDepth 20000 in
theorem dX2_ordersFrom_126 : decode cX2_ordersFrom 126 = .ok (.iload 4, 2) := by decide +kernel
set_option maxRecDepth 20000 in
theorem dX2_ordersFrom_128 : decode cX2_ordersFrom 128 = .ok (.lload 5, 2) := by decide +kernel
set_option maxRecDepth 20000 in
theorem dX2_ordersFrom_130 : decode cX2_ordersFrom 130 = .ok (.lastore, 1) := by decide +kernel
set_option maxRecDepth 20000 in
theorem dX2_ordersFrom_131 : decode cX2_ordersFrom 131 = .ok (.aload_n 0, 1) := by decide +kernel
set_option maxRecDepth 20000 in
theorem dX2_ordersFrom_132 : decode cX2_ordersFrom 132 = .ok (.getfield 23, 3) := by decide +kernel
set_option maxRecDepth 20000 in
theorem dX2_ordersFrom_135 : decode cX2_ordersFrom 135 = .ok (.iload 4, 2) := by decide +kernel
set_option maxRecDepth 20000 in
theorem dX2_ordersFrom_137 : decode cX2_ordersFrom 137 = .ok (.iload 7, 2) := by decide +kernel
set_option maxRecDepth 20000 in
theorem dX2_ordersFrom_139 : decode cX2_ordersFrom 139 = .ok (.iastore, 1) := by decide +kernel
set_option maxRecDepth 20000 in
theorem dX2_ordersFrom_140 : decode cX2_ordersFrom 140 = .ok (.iload 7, 2) := by decide +kernel
set_option maxRecDepth 20000 in
theorem dX2_ordersFrom_142 : decode cX2_ordersFrom 142 = .ok (.ireturn, 1) := by decide +kernel
def f_X2_ordersFrom_81 (N : Nat) (rc : Int64 → Int32 → Int32 → Int32 → (Nat → Int32) → (Nat → Int64) → (Nat → Int32) → Int32 → Int32 → Int32 → Option (Int32 × (Nat → Int64) × (Nat → Int32))) (c_a0_runs : Int64) (c_a0_wanting : Int32) (c_a0_wanted : Int32) (c_a0_board_askers : Int32) (c_a0_board_likes : Nat → Int32) : Nat → (Nat → Int64) → (Nat → Int32) → Int32 → Int32 → Int32 → Int32 → Int64 → Int32 → Int32 → Option (Int32 × (Nat → Int64) × (Nat → Int32))
  | 0, _, _, _, _, _, _, _, _, _ => none
  | n + 1, c_a0_memoKeys, c_a0_memos, v1, v2, v3, v4, v5, v7, v8 =>
    (if c_a0_board_askers ≤ v8 then
      (wrL 2048 c_a0_memoKeys v4 v5).bind fun t2 =>
      (wrI 2048 c_a0_memos v4 v7).bind fun t3 =>
      some (v7, t2, t3)
    else
      (if ((v1 >>> (v8 &&& 31)) &&& (1 : Int32)) = 0 then
        (f_X2_ordersAfter N rc c_a0_runs c_a0_wanting c_a0_wanted c_a0_board_askers c_a0_board_likes c_a0_memoKeys c_a0_memos v8 v1 v2 v3).bind fun (r5, o6, o7) =>
        f_X2_ordersFrom_81 N rc c_a0_runs c_a0_wanting c_a0_wanted c_a0_board_askers c_a0_board_likes n o6 o7 v1 v2 v3 v4 v5 (v7 + r5) (v8 + 1)
      else
        f_X2_ordersFrom_81 N rc c_a0_runs c_a0_wanting c_a0_wanted c_a0_board_askers c_a0_board_likes n c_a0_memoKeys c_a0_memos v1 v2 v3 v4 v5 v7 (v8 + 1)))
set_option maxHeartbeats 4000000 in
set_option maxRecDepth 100000 in
theorem g_X2_ordersFrom_81 {κ : KC} {ω : KW} {A : Nat → Prop} {ad : Nat → Nat} {u_a0_age : Int32} {u_a0_board_places : Int32} {u_a0_board_age : Int32} {N : Nat} {c_a0_runs : Int64} {c_a0_wanting : Int32} {c_a0_wanted : Int32} {c_a0_board_askers : Int32} {c_a0_board_likes : Nat → Int32} {d : Nat}  {rc : Int64 → Int32 → Int32 → Int32 → (Nat → Int32) → (Nat → Int64) → (Nat → Int32) → Int32 → Int32 → Int32 → Option (Int32 × (Nat → Int64) × (Nat → Int32))} {res : Int32 × (Nat → Int64) × (Nat → Int32)} (hrc : ∀ {c_a0_runs : Int64} {c_a0_wanting : Int32} {c_a0_wanted : Int32} {c_a0_board_askers : Int32} {c_a0_memoKeys : Nat → Int64} {c_a0_memos : Nat → Int32} {c_a0_board_likes : Nat → Int32} {u_a0_age : Int32} {u_a0_board_places : Int32} {u_a0_board_age : Int32} {a1 : Int32} {a2 : Int32} {a3 : Int32} {rr : Int32 × (Nat → Int64) × (Nat → Int32)}, rc c_a0_runs c_a0_wanting c_a0_wanted c_a0_board_askers c_a0_board_likes c_a0_memoKeys c_a0_memos a1 a2 a3 = some rr → Con (mu_X2_ordersFrom d) [.ref 0, .int a1, .int a2, .int a3] (w_X2_ordersFrom c_a0_runs c_a0_wanting c_a0_wanted c_a0_board_askers c_a0_memoKeys c_a0_memos c_a0_board_likes u_a0_age u_a0_board_places u_a0_board_age) (some (.int rr.1)) (w_X2_ordersFrom c_a0_runs c_a0_wanting c_a0_wanted c_a0_board_askers rr.2.1 rr.2.2 c_a0_board_likes u_a0_age u_a0_board_places u_a0_board_age)) : ∀ (n : Nat) {c_a0_memoKeys : Nat → Int64} {c_a0_memos : Nat → Int32} {v1 : Int32} {v2 : Int32} {v3 : Int32} {v4 : Int32} {v5 : Int64} {v7 : Int32} {v8 : Int32}, f_X2_ordersFrom_81 N rc c_a0_runs c_a0_wanting c_a0_wanted c_a0_board_askers c_a0_board_likes n c_a0_memoKeys c_a0_memos v1 v2 v3 v4 v5 v7 v8 = some res → GG (mu_X2_ordersFrom (d + 1)) κ ω A (QR κ ω A ad (some (.int res.1)) (w_X2_ordersFrom c_a0_runs c_a0_wanting c_a0_wanted c_a0_board_askers res.2.1 res.2.2 c_a0_board_likes u_a0_age u_a0_board_places u_a0_board_age)) ad 0 0 81 (w_X2_ordersFrom c_a0_runs c_a0_wanting c_a0_wanted c_a0_board_askers c_a0_memoKeys c_a0_memos c_a0_board_likes u_a0_age u_a0_board_places u_a0_board_age) [some (.ref 0), some (.int v1), some (.int v2), some (.int v3), some (.int v4), some (.long v5), none, some (.int v7), some (.int v8)] [] := by
  intro n
  induction n with
  | zero => intro c_a0_memoKeys c_a0_memos v1 v2 v3 v4 v5 v7 v8 hf; exact ob_0 hf
  | succ n ih =>
    intro c_a0_memoKeys c_a0_memos v1 v2 v3 v4 v5 v7 v8 hf
    refine G_iload dX2_ordersFrom_81 rfl ?_
    refine G_aload_n dX2_ordersFrom_83 rfl rfl ?_
    refine G_get (v := .ref 1) F_X2_9 dX2_ordersFrom_84 rfl rfl ?_
    refine G_get (v := .int c_a0_board_askers) F_X2_55 dX2_ordersFrom_87 rfl rfl ?_
    refine G_icmp_ge 122 dX2_ordersFrom_90 (by decide) (fun h1 => ?_) (fun h1 => ?_)
    · replace hf := ob_t h1 hf
      refine G_aload_n dX2_ordersFrom_122 rfl rfl ?_
      refine G_get (v := .ref 2) F_X2_19 dX2_ordersFrom_123 rfl rfl ?_
      refine G_iload dX2_ordersFrom_126 rfl ?_
      refine G_lload dX2_ordersFrom_128 rfl ?_
      obtain ⟨t2, ht2, hf⟩ := ob hf
      refine G_last (w2 := (w_X2_ordersFrom c_a0_runs c_a0_wanting c_a0_wanted c_a0_board_askers t2 c_a0_memos c_a0_board_likes u_a0_age u_a0_board_places u_a0_board_age)) dX2_ordersFrom_130 rfl ht2 rfl ?_
      refine G_aload_n dX2_ordersFrom_131 rfl rfl ?_
      refine G_get (v := .ref 3) F_X2_23 dX2_ordersFrom_132 rfl rfl ?_
      refine G_iload dX2_ordersFrom_135 rfl ?_
      refine G_iload dX2_ordersFrom_137 rfl ?_
      obtain ⟨t3, ht3, hf⟩ := ob hf
      refine G_iast (w2 := (w_X2_ordersFrom c_a0_runs c_a0_wanting c_a0_wanted c_a0_board_askers t2 t3 c_a0_board_likes u_a0_age u_a0_board_places u_a0_board_age)) dX2_ordersFrom_139 rfl ht3 rfl ?_
      refine G_iload dX2_ordersFrom_140 rfl ?_
      obtain rfl := os hf
      exact G_ireturn dX2_ordersFrom_142 rfl
    · replace hf := ob_f h1 hf
      refine G_iload_n dX2_ordersFrom_93 rfl rfl ?_
      refine G_iload dX2_ordersFrom_94 rfl ?_
      refine G_ishr dX2_ordersFrom_96 ?_
      refine G_iconst 1 dX2_ordersFrom_97 (by decide) ?_
      refine G_iand dX2_ordersFrom_98 ?_
      refine G_if_ne 116 dX2_ordersFrom_99 (by decide) (fun h4 => ?_) (fun h4 => ?_)
      · replace hf := ob_f h4 hf
        refine G_iinc 1 dX2_ordersFrom_116 (by decide) rfl (ltb rfl) ?_
        change GG _ _ _ _ _ _ _ _ _ _ [some (.ref 0), some (.int v1), some (.int v2), some (.int v3), some (.int v4), some (.long v5), none, some (.int v7), some (.int (v8 + 1))] _
        refine G_goto 81 dX2_ordersFrom_119 (by decide) ?_
        exact ih hf
      · replace hf := ob_t h4 hf
        refine G_iload dX2_ordersFrom_102 rfl ?_
        refine G_aload_n dX2_ordersFrom_104 rfl rfl ?_
        refine G_iload dX2_ordersFrom_105 rfl ?_
        refine G_iload_n dX2_ordersFrom_107 rfl rfl ?_
        refine G_iload_n dX2_ordersFrom_108 rfl rfl ?_
        refine G_iload_n dX2_ordersFrom_109 rfl rfl ?_
        obtain ⟨⟨r5, o6, o7⟩, hc8, hf⟩ := ob hf
        refine G_callS (μ2 := (mu_X2_ordersAfter d)) (As := [.ref 0, .int v8, .int v1, .int v2, .int v3]) (w2 := (w_X2_ordersFrom c_a0_runs c_a0_wanting c_a0_wanted c_a0_board_askers o6 o7 c_a0_board_likes u_a0_age u_a0_board_places u_a0_board_age)) (wc := (w_X2_ordersAfter c_a0_runs c_a0_wanting c_a0_wanted c_a0_board_askers c_a0_memoKeys c_a0_memos c_a0_board_likes u_a0_age u_a0_board_places u_a0_board_age)) (wc2 := (w_X2_ordersAfter c_a0_runs c_a0_wanting c_a0_wanted c_a0_board_askers o6 o7 c_a0_board_likes u_a0_age u_a0_board_places u_a0_board_age)) (rest := [.int v7]) (rv := [.int r5]) [0, 1, 2, 3, 4] [1000, 1001, 1002, 1003, 1004] [] [0, 1, 2, 3, 4] (c_X2_ordersAfter (d := d) hrc hc8) cw_X2_ordersAfter m_X2_58 rfl dX2_ordersFrom_110 rfl (by constructor <;> simp [mu_X2_ordersAfter, mu_X2_ordersFrom] <;> omega) ⟨rfl, rfl⟩ (Fit.mk rfl rfl rfl) rfl (leb rfl) ⟨(List.forall_mem_cons.mpr ⟨⟨_, List.mem_of_getElem? (i := 0) rfl, rfl, rfl⟩, (fun _ h => absurd h List.not_mem_nil)⟩), (List.forall_mem_cons.mpr ⟨⟨_, List.mem_of_getElem? (i := 0) rfl, rfl, rfl, rfl⟩, (fun _ h => absurd h List.not_mem_nil)⟩)⟩ rfl ?_
        change GG _ _ _ _ _ _ _ _ _ (w_X2_ordersFrom c_a0_runs c_a0_wanting c_a0_wanted c_a0_board_askers o6 o7 c_a0_board_likes u_a0_age u_a0_board_places u_a0_board_age) [some (.ref 0), some (.int v1), some (.int v2), some (.int v3), some (.int v4), some (.long v5), none, some (.int v7), some (.int v8)] [.int r5, .int v7]
        refine G_iadd dX2_ordersFrom_113 ?_
        refine G_istore dX2_ordersFrom_114 (ltb rfl) ?_
        change GG _ _ _ _ _ _ _ _ _ _ [some (.ref 0), some (.int v1), some (.int v2), some (.int v3), some (.int v4), some (.long v5), none, some (.int (v7 + r5)), some (.int v8)] _
        refine G_iinc 1 dX2_ordersFrom_116 (by decide) rfl (ltb rfl) ?_
        change GG _ _ _ _ _ _ _ _ _ _ [some (.ref 0), some (.int v1), some (.int v2), some (.int v3), some (.int v4), some (.long v5), none, some (.int (v7 + r5)), some (.int (v8 + 1))] _
        refine G_goto 81 dX2_ordersFrom_119 (by decide) ?_
        exact ih hf
def f_X2_ordersFrom (N : Nat) : Nat → Int64 → Int32 → Int32 → Int32 → (Nat → Int32) → (Nat → Int64) → (Nat → Int32) → Int32 → Int32 → Int32 → Option (Int32 × (Nat → Int64) × (Nat → Int32))
  | 0, _, _, _, _, _, _, _, _, _, _ => none
  | d + 1, c_a0_runs, c_a0_wanting, c_a0_wanted, c_a0_board_askers, c_a0_board_likes, c_a0_memoKeys, c_a0_memos, a1, a2, a3 =>
    (if 8 ≤ a3 then
    some (0, c_a0_memoKeys, c_a0_memos)
  else
    (if ((a2 >>> ((2 * c_a0_wanted) &&& 31)) &&& (3 : Int32)) = 0 then
      some (0, c_a0_memoKeys, c_a0_memos)
    else
      (rdL 2048 c_a0_memoKeys (((a1 * 113) + (a2 * 37)) &&& (2047 : Int32))).bind fun t3 =>
      (if t3 = (((c_a0_runs <<< ((20 : Int32).toInt64 &&& 63)) ||| ((a1 <<< ((12 : Int32) &&& 31)).toInt64)) ||| a2.toInt64) then
        (rdI 2048 c_a0_memos (((a1 * 113) + (a2 * 37)) &&& (2047 : Int32))).bind fun t5 =>
        some (t5, c_a0_memoKeys, c_a0_memos)
      else
        f_X2_ordersFrom_81 N (f_X2_ordersFrom N d) c_a0_runs c_a0_wanting c_a0_wanted c_a0_board_askers c_a0_board_likes N c_a0_memoKeys c_a0_memos a1 a2 a3 (((a1 * 113) + (a2 * 37)) &&& (2047 : Int32)) (((c_a0_runs <<< ((20 : Int32).toInt64 &&& 63)) ||| ((a1 <<< ((12 : Int32) &&& 31)).toInt64)) ||| a2.toInt64) 0 0)))
set_option maxHeartbeats 4000000 in
set_option maxRecDepth 100000 in
theorem c_X2_ordersFrom {N : Nat} : ∀ (d : Nat) {c_a0_runs : Int64} {c_a0_wanting : Int32} {c_a0_wanted : Int32} {c_a0_board_askers : Int32} {c_a0_memoKeys : Nat → Int64} {c_a0_memos : Nat → Int32} {c_a0_board_likes : Nat → Int32} {u_a0_age : Int32} {u_a0_board_places : Int32} {u_a0_board_age : Int32} {a1 : Int32} {a2 : Int32} {a3 : Int32} {res : Int32 × (Nat → Int64) × (Nat → Int32)}, f_X2_ordersFrom N d c_a0_runs c_a0_wanting c_a0_wanted c_a0_board_askers c_a0_board_likes c_a0_memoKeys c_a0_memos a1 a2 a3 = some res → Con (mu_X2_ordersFrom d) [.ref 0, .int a1, .int a2, .int a3] (w_X2_ordersFrom c_a0_runs c_a0_wanting c_a0_wanted c_a0_board_askers c_a0_memoKeys c_a0_memos c_a0_board_likes u_a0_age u_a0_board_places u_a0_board_age) (some (.int res.1)) (w_X2_ordersFrom c_a0_runs c_a0_wanting c_a0_wanted c_a0_board_askers res.2.1 res.2.2 c_a0_board_likes u_a0_age u_a0_board_places u_a0_board_age) := by
  intro d
  induction d with
  | zero => intros; exact ob_0 (by assumption)
  | succ d hrc =>
    intro c_a0_runs c_a0_wanting c_a0_wanted c_a0_board_askers c_a0_memoKeys c_a0_memos c_a0_board_likes u_a0_age u_a0_board_places u_a0_board_age a1 a2 a3 res hf
    refine Con.mk (show plainName RX2 = true by decide +kernel) (leb rfl) (fun κ ω A ad => ?_)
    change GG (mu_X2_ordersFrom (d + 1)) κ ω A (QR κ ω A ad (some (.int res.1)) (w_X2_ordersFrom c_a0_runs c_a0_wanting c_a0_wanted c_a0_board_askers res.2.1 res.2.2 c_a0_board_likes u_a0_age u_a0_board_places u_a0_board_age)) ad 0 0 0 (w_X2_ordersFrom c_a0_runs c_a0_wanting c_a0_wanted c_a0_board_askers c_a0_memoKeys c_a0_memos c_a0_board_likes u_a0_age u_a0_board_places u_a0_board_age) [some (.ref 0), some (.int a1), some (.int a2), some (.int a3), none, none, none, none, none] []
    refine G_iload_n dX2_ordersFrom_0 rfl rfl ?_
    refine G_bipush 8 dX2_ordersFrom_1 (by decide) ?_
    refine G_icmp_ge 19 dX2_ordersFrom_3 (by decide) (fun h1 => ?_) (fun h1 => ?_)
    · replace hf := ob_t h1 hf
      refine G_iconst 0 dX2_ordersFrom_19 (by decide) ?_
      obtain rfl := os hf
      exact G_ireturn dX2_ordersFrom_20 rfl
    · replace hf := ob_f h1 hf
      refine G_iload_n dX2_ordersFrom_6 rfl rfl ?_
      refine G_iconst 2 dX2_ordersFrom_7 (by decide) ?_
      refine G_aload_n dX2_ordersFrom_8 rfl rfl ?_
      refine G_get (v := .int c_a0_wanted) F_X2_36 dX2_ordersFrom_9 rfl rfl ?_
      refine G_imul dX2_ordersFrom_12 ?_
      refine G_ishr dX2_ordersFrom_13 ?_
      refine G_iconst 3 dX2_ordersFrom_14 (by decide) ?_
      refine G_iand dX2_ordersFrom_15 ?_
      refine G_if_ne 21 dX2_ordersFrom_16 (by decide) (fun h2 => ?_) (fun h2 => ?_)
      · replace hf := ob_f h2 hf
        refine G_iload_n dX2_ordersFrom_21 rfl rfl ?_
        refine G_bipush 113 dX2_ordersFrom_22 (by decide) ?_
        refine G_imul dX2_ordersFrom_24 ?_
        refine G_iload_n dX2_ordersFrom_25 rfl rfl ?_
        refine G_bipush 37 dX2_ordersFrom_26 (by decide) ?_
        refine G_imul dX2_ordersFrom_28 ?_
        refine G_iadd dX2_ordersFrom_29 ?_
        refine G_sipush 2047 dX2_ordersFrom_30 (by decide) ?_
        refine G_iand dX2_ordersFrom_33 ?_
        refine G_istore dX2_ordersFrom_34 (ltb rfl) ?_
        change GG _ _ _ _ _ _ _ _ _ _ [some (.ref 0), some (.int a1), some (.int a2), some (.int a3), some (.int (((a1 * 113) + (a2 * 37)) &&& (2047 : Int32))), none, none, none, none] _
        refine G_aload_n dX2_ordersFrom_36 rfl rfl ?_
        refine G_get (v := .long c_a0_runs) F_X2_39 dX2_ordersFrom_37 rfl rfl ?_
        refine G_bipush 20 dX2_ordersFrom_40 (by decide) ?_
        refine G_lshl dX2_ordersFrom_42 ?_
        refine G_iload_n dX2_ordersFrom_43 rfl rfl ?_
        refine G_bipush 12 dX2_ordersFrom_44 (by decide) ?_
        refine G_ishl dX2_ordersFrom_46 ?_
        refine G_i2l dX2_ordersFrom_47 ?_
        refine G_lor dX2_ordersFrom_48 ?_
        refine G_iload_n dX2_ordersFrom_49 rfl rfl ?_
        refine G_i2l dX2_ordersFrom_50 ?_
        refine G_lor dX2_ordersFrom_51 ?_
        refine G_lstore dX2_ordersFrom_52 (ltb rfl) ?_
        change GG _ _ _ _ _ _ _ _ _ _ [some (.ref 0), some (.int a1), some (.int a2), some (.int a3), some (.int (((a1 * 113) + (a2 * 37)) &&& (2047 : Int32))), some (.long (((c_a0_runs <<< ((20 : Int32).toInt64 &&& 63)) ||| ((a1 <<< ((12 : Int32) &&& 31)).toInt64)) ||| a2.toInt64)), none, none, none] _
        refine G_aload_n dX2_ordersFrom_54 rfl rfl ?_
        refine G_get (v := .ref 2) F_X2_19 dX2_ordersFrom_55 rfl rfl ?_
        refine G_iload dX2_ordersFrom_58 rfl ?_
        obtain ⟨t3, ht3, hf⟩ := ob hf
        refine G_lald dX2_ordersFrom_60 rfl ht3 ?_
        refine G_lload dX2_ordersFrom_61 rfl ?_
        refine G_lcmp_ne 75 dX2_ordersFrom_63 dX2_ordersFrom_64 (by decide) (fun h4 => ?_) (fun h4 => ?_)
        · replace hf := ob_f h4 hf
          refine G_iconst 0 dX2_ordersFrom_75 (by decide) ?_
          refine G_istore dX2_ordersFrom_76 (ltb rfl) ?_
          change GG _ _ _ _ _ _ _ _ _ _ [some (.ref 0), some (.int a1), some (.int a2), some (.int a3), some (.int (((a1 * 113) + (a2 * 37)) &&& (2047 : Int32))), some (.long (((c_a0_runs <<< ((20 : Int32).toInt64 &&& 63)) ||| ((a1 <<< ((12 : Int32) &&& 31)).toInt64)) ||| a2.toInt64)), none, some (.int 0), none] _
          refine G_iconst 0 dX2_ordersFrom_78 (by decide) ?_
          refine G_istore dX2_ordersFrom_79 (ltb rfl) ?_
          change GG _ _ _ _ _ _ _ _ _ _ [some (.ref 0), some (.int a1), some (.int a2), some (.int a3), some (.int (((a1 * 113) + (a2 * 37)) &&& (2047 : Int32))), some (.long (((c_a0_runs <<< ((20 : Int32).toInt64 &&& 63)) ||| ((a1 <<< ((12 : Int32) &&& 31)).toInt64)) ||| a2.toInt64)), none, some (.int 0), some (.int 0)] _
          exact g_X2_ordersFrom_81 hrc N hf
        · replace hf := ob_t h4 hf
          refine G_aload_n dX2_ordersFrom_67 rfl rfl ?_
          refine G_get (v := .ref 3) F_X2_23 dX2_ordersFrom_68 rfl rfl ?_
          refine G_iload dX2_ordersFrom_71 rfl ?_
          obtain ⟨t5, ht5, hf⟩ := ob hf
          refine G_iald dX2_ordersFrom_73 rfl ht5 ?_
          obtain rfl := os hf
          exact G_ireturn dX2_ordersFrom_74 rfl
      · replace hf := ob_t h2 hf
        refine G_iconst 0 dX2_ordersFrom_19 (by decide) ?_
        obtain rfl := os hf
        exact G_ireturn dX2_ordersFrom_20 rfl
set_option maxRecDepth 20000 in
theorem dX2_ordersFor_0 : decode cX2_ordersFor 0 = .ok (.aload_n 0, 1) := by decide +kernel
set_option maxRecDepth 20000 in
theorem dX2_ordersFor_1 : decode cX2_ordersFor 1 = .ok (.getfield 26, 3) := by decide +kernel
set_option maxRecDepth 20000 in
theorem dX2_ordersFor_4 : decode cX2_ordersFor 4 = .ok (.aload_n 0, 1) := by decide +kernel
set_option maxRecDepth 20000 in
theorem dX2_ordersFor_5 : decode cX2_ordersFor 5 = .ok (.getfield 9, 3) := by decide +kernel
set_option maxRecDepth 20000 in
theorem dX2_ordersFor_8 : decode cX2_ordersFor 8 = .ok (.getfield 30, 3) := by decide +kernel
set_option maxRecDepth 20000 in
theorem dX2_ordersFor_11 : decode cX2_ordersFor 11 = .ok (.if_icmp .eq 35, 3) := by decide +kernel
set_option maxRecDepth 20000 in
theorem dX2_ordersFor_14 : decode cX2_ordersFor 14 = .ok (.aload_n 0, 1) := by decide +kernel
set_option maxRecDepth 20000 in
theorem dX2_ordersFor_15 : decode cX2_ordersFor 15 = .ok (.aload_n 0, 1) := by decide +kernel
set_option maxRecDepth 20000 in
theorem dX2_ordersFor_16 : decode cX2_ordersFor 16 = .ok (.getfield 9, 3) := by decide +kernel
set_option maxRecDepth 20000 in
theorem dX2_ordersFor_19 : decode cX2_ordersFor 19 = .ok (.getfield 30, 3) := by decide +kernel
set_option maxRecDepth 20000 in
theorem dX2_ordersFor_22 : decode cX2_ordersFor 22 = .ok (.putfield 26, 3) := by decide +kernel
set_option maxRecDepth 20000 in
theorem dX2_ordersFor_25 : decode cX2_ordersFor 25 = .ok (.iconst 0, 1) := by decide +kernel
set_option maxRecDepth 20000 in
theorem dX2_ordersFor_26 : decode cX2_ordersFor 26 = .ok (.istore_n 3, 1) := by decide +kernel
set_option maxRecDepth 20000 in
theorem dX2_ordersFor_27 : decode cX2_ordersFor 27 = .ok (.iload_n 3, 1) := by decide +kernel
set_option maxRecDepth 20000 in
theorem dX2_ordersFor_28 : decode cX2_ordersFor 28 = .ok (.bipush 48, 2) := by decide +kernel
set_option maxRecDepth 20000 in
theorem dX2_ordersFor_30 : decode cX2_ordersFor 30 = .ok (.if_icmp .ge 16, 3) := by decide +kernel
set_option maxRecDepth 20000 in
theorem dX2_ordersFor_33 : decode cX2_ordersFor 33 = .ok (.aload_n 0, 1) := by decide +kernel
set_option maxRecDepth 20000 in
theorem dX2_ordersFor_34 : decode cX2_ordersFor 34 = .ok (.getfield 15, 3) := by decide +kernel
set_option maxRecDepth 20000 in
theorem dX2_ordersFor_37 : decode cX2_ordersFor 37 = .ok (.iload_n 3, 1) := by decide +kernel
set_option maxRecDepth 20000 in
theorem dX2_ordersFor_38 : decode cX2_ordersFor 38 = .ok (.iconst (-1), 1) := by decide +kernel
set_option maxRecDepth 20000 in
theorem dX2_ordersFor_39 : decode cX2_ordersFor 39 = .ok (.iastore, 1) := by decide +kernel
set_option maxRecDepth 20000 in
theorem dX2_ordersFor_40 : decode cX2_ordersFor 40 = .ok (.iinc 3 1, 3) := by decide +kernel
set_option maxRecDepth 20000 in
theorem dX2_ordersFor_43 : decode cX2_ordersFor 43 = .ok (.goto (-16), 3) := by decide +kernel
set_option maxRecDepth 20000 in
theorem dX2_ordersFor_46 : decode cX2_ordersFor 46 = .ok (.aload_n 0, 1) := by decide +kernel
set_option maxRecDepth 20000 in
theorem dX2_ordersFor_47 : decode cX2_ordersFor 47 = .ok (.getfield 15, 3) := by decide +kernel
set_option maxRecDepth 20000 in
theorem dX2_ordersFor_50 : decode cX2_ordersFor 50 = .ok (.iload_n 1, 1) := by decide +kernel
set_option maxRecDepth 20000 in
theorem dX2_ordersFor_51 : decode cX2_ordersFor 51 = .ok (.bipush 6, 2) := by decide +kernel
set_option maxRecDepth 20000 in
theorem dX2_ordersFor_53 : decode cX2_ordersFor 53 = .ok (.imul, 1) := by decide +kernel
set_option maxRecDepth 20000 in
theorem dX2_ordersFor_54 : decode cX2_ordersFor 54 = .ok (.iload_n 2, 1) := by decide +kernel
set_option maxRecDepth 20000 in
theorem dX2_ordersFor_55 : decode cX2_ordersFor 55 = .ok (.iadd, 1) := by decide +kernel
set_option maxRecDepth 20000 in
theorem dX2_ordersFor_56 : decode cX2_ordersFor 56 = .ok (.iaload, 1) := by decide +kernel
set_option maxRecDepth 20000 in
theorem dX2_ordersFor_57 : decode cX2_ordersFor 57 = .ok (.iconst (-1), 1) := by decide +kernel
set_option maxRecDepth 20000 in
theorem dX2_ordersFor_58 : decode cX2_ordersFor 58 = .ok (.if_icmp .ne 63, 3) := by decide +kernel
set_option maxRecDepth 20000 in
theorem dX2_ordersFor_61 : decode cX2_ordersFor 61 = .ok (.aload_n 0, 1) := by decide +kernel
set_option maxRecDepth 20000 in
theorem dX2_ordersFor_62 : decode cX2_ordersFor 62 = .ok (.iload_n 1, 1) := by decide +kernel
set_option maxRecDepth 20000 in
theorem dX2_ordersFor_63 : decode cX2_ordersFor 63 = .ok (.putfield 33, 3) := by decide +kernel
set_option maxRecDepth 20000 in
theorem dX2_ordersFor_66 : decode cX2_ordersFor 66 = .ok (.aload_n 0, 1) := by decide +kernel
set_option maxRecDepth 20000 in
theorem dX2_ordersFor_67 : decode cX2_ordersFor 67 = .ok (.iload_n 2, 1) := by decide +kernel
set_option maxRecDepth 20000 in
theorem dX2_ordersFor_68 : decode cX2_ordersFor 68 = .ok (.putfield 36, 3) := by decide +kernel
set_option maxRecDepth 20000 in
theorem dX2_ordersFor_71 : decode cX2_ordersFor 71 = .ok (.aload_n 0, 1) := by decide +kernel
set_option maxRecDepth 20000 in
theorem dX2_ordersFor_72 : decode cX2_ordersFor 72 = .ok (.dup, 1) := by decide +kernel
set_option maxRecDepth 20000 in
theorem dX2_ordersFor_73 : decode cX2_ordersFor 73 = .ok (.getfield 39, 3) := by decide +kernel
set_option maxRecDepth 20000 in
theorem dX2_ordersFor_76 : decode cX2_ordersFor 76 = .ok (.lconst 1, 1) := by decide +kernel
set_option maxRecDepth 20000 in
theorem dX2_ordersFor_77 : decode cX2_ordersFor 77 = .ok (.ladd, 1) := by decide +kernel
set_option maxRecDepth 20000 in
theorem dX2_ordersFor_78 : decode cX2_ordersFor 78 = .ok (.putfield 39, 3) := by decide +kernel
set_option maxRecDepth 20000 in
theorem dX2_ordersFor_81 : decode cX2_ordersFor 81 = .ok (.aload_n 0, 1) := by decide +kernel
set_option maxRecDepth 20000 in
theorem dX2_ordersFor_82 : decode cX2_ordersFor 82 = .ok (.getfield 15, 3) := by decide +kernel
set_option maxRecDepth 20000 in
theorem dX2_ordersFor_85 : decode cX2_ordersFor 85 = .ok (.iload_n 1, 1) := by decide +kernel
set_option maxRecDepth 20000 in
theorem dX2_ordersFor_86 : decode cX2_ordersFor 86 = .ok (.bipush 6, 2) := by decide +kernel
set_option maxRecDepth 20000 in
theorem dX2_ordersFor_88 : decode cX2_ordersFor 88 = .ok (.imul, 1) := by decide +kernel
set_option maxRecDepth 20000 in
theorem dX2_ordersFor_89 : decode cX2_ordersFor 89 = .ok (.iload_n 2, 1) := by decide +kernel
set_option maxRecDepth 20000 in
theorem dX2_ordersFor_90 : decode cX2_ordersFor 90 = .ok (.iadd, 1) := by decide +kernel
set_option maxRecDepth 20000 in
theorem dX2_ordersFor_91 : decode cX2_ordersFor 91 = .ok (.aload_n 0, 1) := by decide +kernel
set_option maxRecDepth 20000 in
theorem dX2_ordersFor_92 : decode cX2_ordersFor 92 = .ok (.getfield 9, 3) := by decide +kernel
set_option maxRecDepth 20000 in
theorem dX2_ordersFor_95 : decode cX2_ordersFor 95 = .ok (.iload_n 1, 1) := by decide +kernel
set_option maxRecDepth 20000 in
theorem dX2_ordersFor_96 : decode cX2_ordersFor 96 = .ok (.iload_n 2, 1) := by decide +kernel
set_option maxRecDepth 20000 in
theorem dX2_ordersFor_97 : decode cX2_ordersFor 97 = .ok (.invokevirtual 43, 3) := by decide +kernel
set_option maxRecDepth 20000 in
theorem dX2_ordersFor_100 : decode cX2_ordersFor 100 = .ok (.ifCond .ne 7, 3) := by decide +kernel
set_option maxRecDepth 20000 in
theorem dX2_ordersFor_103 : decode cX2_ordersFor 103 = .ok (.iconst 0, 1) := by decide +kernel
set_option maxRecDepth 20000 in
theorem dX2_ordersFor_104 : decode cX2_ordersFor 104 = .ok (.goto 16, 3) := by decide +kernel
set_option maxRecDepth 20000 in
theorem dX2_ordersFor_107 : decode cX2_ordersFor 107 = .ok (.aload_n 0, 1) := by decide +kernel
set_option maxRecDepth 20000 in
theorem dX2_ordersFor_108 : decode cX2_ordersFor 108 = .ok (.iconst 0, 1) := by decide +kernel
set_option maxRecDepth 20000 in
theorem dX2_ordersFor_109 : decode cX2_ordersFor 109 = .ok (.aload_n 0, 1) := by decide +kernel
set_option maxRecDepth 20000 in
theorem dX2_ordersFor_110 : decode cX2_ordersFor 110 = .ok (.getfield 9, 3) := by decide +kernel
set_option maxRecDepth 20000 in
theorem dX2_ordersFor_113 : decode cX2_ordersFor 113 = .ok (.invokevirtual 47, 3) := by decide +kernel
set_option maxRecDepth 20000 in
theorem dX2_ordersFor_116 : decode cX2_ordersFor 116 = .ok (.iconst 0, 1) := by decide +kernel
set_option maxRecDepth 20000 in
theorem dX2_ordersFor_117 : decode cX2_ordersFor 117 = .ok (.invokestatic 51, 3) := by decide +kernel
set_option maxRecDepth 20000 in
theorem dX2_ordersFor_120 : decode cX2_ordersFor 120 = .ok (.iastore, 1) := by decide +kernel
set_option maxRecDepth 20000 in
theorem dX2_ordersFor_121 : decode cX2_ordersFor 121 = .ok (.aload_n 0, 1) := by decide +kernel
set_option maxRecDepth 20000 in
theorem dX2_ordersFor_122 : decode cX2_ordersFor 122 = .ok (.getfield 15, 3) := by decide +kernel
set_option maxRecDepth 20000 in
theorem dX2_ordersFor_125 : decode cX2_ordersFor 125 = .ok (.iload_n 1, 1) := by decide +kernel
set_option maxRecDepth 20000 in
theorem dX2_ordersFor_126 : decode cX2_ordersFor 126 = .ok (.bipush 6, 2) := by decide +kernel
set_option maxRecDepth 20000 in
theorem dX2_ordersFor_128 : decode cX2_ordersFor 128 = .ok (.imul, 1) := by decide +kernel
set_option maxRecDepth 20000 in
theorem dX2_ordersFor_129 : decode cX2_ordersFor 129 = .ok (.iload_n 2, 1) := by decide +kernel
set_option maxRecDepth 20000 in
theorem dX2_ordersFor_130 : decode cX2_ordersFor 130 = .ok (.iadd, 1) := by decide +kernel
set_option maxRecDepth 20000 in
theorem dX2_ordersFor_131 : decode cX2_ordersFor 131 = .ok (.iaload, 1) := by decide +kernel
set_option maxRecDepth 20000 in
theorem dX2_ordersFor_132 : decode cX2_ordersFor 132 = .ok (.ireturn, 1) := by decide +kernel
def f_X2_ordersFor_121 (N : Nat) (c_board_askers : Int32) (c_board_places : Int32) (c_board_age : Int32) (c_board_likes : Nat → Int32) (c_board_seats : Nat → Int32) (c_board_wishes : Nat → Int32) (c_age : Int32) (c_runs : Int64) (c_wanting : Int32) (c_wanted : Int32) (c_answers : Nat → Int32) (c_memoKeys : Nat → Int64) (c_memos : Nat → Int32) (v1 : Int32) (v2 : Int32) : Option (Int32 × Int32 × Int64 × Int32 × Int32 × (Nat → Int32) × (Nat → Int64) × (Nat → Int32)) :=
    (rdI 48 c_answers ((v1 * 6) + v2)).bind fun t1 =>
    some (t1, c_age, c_runs, c_wanting, c_wanted, c_answers, c_memoKeys, c_memos)
set_option maxHeartbeats 4000000 in
set_option maxRecDepth 100000 in
theorem g_X2_ordersFor_121 {κ : KC} {ω : KW} {A : Nat → Prop} {ad : Nat → Nat}  {N : Nat} {c_board_askers : Int32} {c_board_places : Int32} {c_board_age : Int32} {c_board_likes : Nat → Int32} {c_board_seats : Nat → Int32} {c_board_wishes : Nat → Int32}  {res : Int32 × Int32 × Int64 × Int32 × Int32 × (Nat → Int32) × (Nat → Int64) × (Nat → Int32)} {c_age : Int32} {c_runs : Int64} {c_wanting : Int32} {c_wanted : Int32} {c_answers : Nat → Int32} {c_memoKeys : Nat → Int64} {c_memos : Nat → Int32} {v1 : Int32} {v2 : Int32} (hf : f_X2_ordersFor_121 N c_board_askers c_board_places c_board_age c_board_likes c_board_seats c_board_wishes c_age c_runs c_wanting c_wanted c_answers c_memoKeys c_memos v1 v2 = some res) : GG mu_X2_ordersFor κ ω A (QR κ ω A ad (some (.int res.1)) (w_X2_ordersFor res.2.1 res.2.2.1 res.2.2.2.1 res.2.2.2.2.1 res.2.2.2.2.2.1 c_board_askers c_board_places c_board_age res.2.2.2.2.2.2.1 res.2.2.2.2.2.2.2 c_board_likes c_board_seats c_board_wishes)) ad 0 0 121 (w_X2_ordersFor c_age c_runs c_wanting c_wanted c_answers c_board_askers c_board_places c_board_age c_memoKeys c_memos c_board_likes c_board_seats c_board_wishes) [some (.ref 0), some (.int v1), some (.int v2), none] [] := by
  refine G_aload_n dX2_ordersFor_121 rfl rfl ?_
  refine G_get (v := .ref 1) F_X2_15 dX2_ordersFor_122 rfl rfl ?_
  refine G_iload_n dX2_ordersFor_125 rfl rfl ?_
  refine G_bipush 6 dX2_ordersFor_126 (by decide) ?_
  refine G_imul dX2_ordersFor_128 ?_
  refine G_iload_n dX2_ordersFor_129 rfl rfl ?_
  refine G_iadd dX2_ordersFor_130 ?_
  obtain ⟨t1, ht1, hf⟩ := ob hf
  refine G_iald dX2_ordersFor_131 rfl ht1 ?_
  obtain rfl := os hf
  exact G_ireturn dX2_ordersFor_132 rfl
def f_X2_ordersFor_120 (N : Nat) (c_board_askers : Int32) (c_board_places : Int32) (c_board_age : Int32) (c_board_likes : Nat → Int32) (c_board_seats : Nat → Int32) (c_board_wishes : Nat → Int32) (c_age : Int32) (c_runs : Int64) (c_wanting : Int32) (c_wanted : Int32) (c_answers : Nat → Int32) (c_memoKeys : Nat → Int64) (c_memos : Nat → Int32) (v1 : Int32) (v2 : Int32) (s1 : Int32) (s2 : Int32) : Option (Int32 × Int32 × Int64 × Int32 × Int32 × (Nat → Int32) × (Nat → Int64) × (Nat → Int32)) :=
    (wrI 48 c_answers s1 s2).bind fun t1 =>
    f_X2_ordersFor_121 N c_board_askers c_board_places c_board_age c_board_likes c_board_seats c_board_wishes c_age c_runs c_wanting c_wanted t1 c_memoKeys c_memos v1 v2
set_option maxHeartbeats 4000000 in
set_option maxRecDepth 100000 in
theorem g_X2_ordersFor_120 {κ : KC} {ω : KW} {A : Nat → Prop} {ad : Nat → Nat}  {N : Nat} {c_board_askers : Int32} {c_board_places : Int32} {c_board_age : Int32} {c_board_likes : Nat → Int32} {c_board_seats : Nat → Int32} {c_board_wishes : Nat → Int32}  {res : Int32 × Int32 × Int64 × Int32 × Int32 × (Nat → Int32) × (Nat → Int64) × (Nat → Int32)} {c_age : Int32} {c_runs : Int64} {c_wanting : Int32} {c_wanted : Int32} {c_answers : Nat → Int32} {c_memoKeys : Nat → Int64} {c_memos : Nat → Int32} {v1 : Int32} {v2 : Int32} {s1 : Int32} {s2 : Int32} (hf : f_X2_ordersFor_120 N c_board_askers c_board_places c_board_age c_board_likes c_board_seats c_board_wishes c_age c_runs c_wanting c_wanted c_answers c_memoKeys c_memos v1 v2 s1 s2 = some res) : GG mu_X2_ordersFor κ ω A (QR κ ω A ad (some (.int res.1)) (w_X2_ordersFor res.2.1 res.2.2.1 res.2.2.2.1 res.2.2.2.2.1 res.2.2.2.2.2.1 c_board_askers c_board_places c_board_age res.2.2.2.2.2.2.1 res.2.2.2.2.2.2.2 c_board_likes c_board_seats c_board_wishes)) ad 0 0 120 (w_X2_ordersFor c_age c_runs c_wanting c_wanted c_answers c_board_askers c_board_places c_board_age c_memoKeys c_memos c_board_likes c_board_seats c_board_wishes) [some (.ref 0), some (.int v1), some (.int v2), none] [.int s2, .int s1, .ref 1] := by
  obtain ⟨t1, ht1, hf⟩ := ob hf
  refine G_iast (w2 := (w_X2_ordersFor c_age c_runs c_wanting c_wanted t1 c_board_askers c_board_places c_board_age c_memoKeys c_memos c_board_likes c_board_seats c_board_wishes)) dX2_ordersFor_120 rfl ht1 rfl ?_
  exact g_X2_ordersFor_121 hf
def f_X2_ordersFor_46 (N : Nat) (c_board_askers : Int32) (c_board_places : Int32) (c_board_age : Int32) (c_board_likes : Nat → Int32) (c_board_seats : Nat → Int32) (c_board_wishes : Nat → Int32) (c_age : Int32) (c_runs : Int64) (c_wanting : Int32) (c_wanted : Int32) (c_answers : Nat → Int32) (c_memoKeys : Nat → Int64) (c_memos : Nat → Int32) (v1 : Int32) (v2 : Int32) : Option (Int32 × Int32 × Int64 × Int32 × Int32 × (Nat → Int32) × (Nat → Int64) × (Nat → Int32)) :=
    (rdI 48 c_answers ((v1 * 6) + v2)).bind fun t1 =>
    (if t1 = (-1 : Int32) then
      (f_X0_wishOf N c_board_wishes v1 v2).bind fun r3 =>
      (if r3 = 0 then
        f_X2_ordersFor_120 N c_board_askers c_board_places c_board_age c_board_likes c_board_seats c_board_wishes c_age (c_runs + 1) v1 v2 c_answers c_memoKeys c_memos v1 v2 ((v1 * 6) + v2) 0
      else
        (f_X0_seatBits N c_board_places c_board_seats).bind fun r6 =>
        (f_X2_ordersFrom N 10 (c_runs + 1) v1 v2 c_board_askers c_board_likes c_memoKeys c_memos 0 r6 0).bind fun (r8, o9, o10) =>
        f_X2_ordersFor_120 N c_board_askers c_board_places c_board_age c_board_likes c_board_seats c_board_wishes c_age (c_runs + 1) v1 v2 c_answers o9 o10 v1 v2 ((v1 * 6) + v2) r8)
    else
      f_X2_ordersFor_121 N c_board_askers c_board_places c_board_age c_board_likes c_board_seats c_board_wishes c_age c_runs c_wanting c_wanted c_answers c_memoKeys c_memos v1 v2)
set_option maxHeartbeats 4000000 in
set_option maxRecDepth 100000 in
theorem g_X2_ordersFor_46 {κ : KC} {ω : KW} {A : Nat → Prop} {ad : Nat → Nat}  {N : Nat} {c_board_askers : Int32} {c_board_places : Int32} {c_board_age : Int32} {c_board_likes : Nat → Int32} {c_board_seats : Nat → Int32} {c_board_wishes : Nat → Int32}  {res : Int32 × Int32 × Int64 × Int32 × Int32 × (Nat → Int32) × (Nat → Int64) × (Nat → Int32)} {c_age : Int32} {c_runs : Int64} {c_wanting : Int32} {c_wanted : Int32} {c_answers : Nat → Int32} {c_memoKeys : Nat → Int64} {c_memos : Nat → Int32} {v1 : Int32} {v2 : Int32} (hf : f_X2_ordersFor_46 N c_board_askers c_board_places c_board_age c_board_likes c_board_seats c_board_wishes c_age c_runs c_wanting c_wanted c_answers c_memoKeys c_memos v1 v2 = some res) : GG mu_X2_ordersFor κ ω A (QR κ ω A ad (some (.int res.1)) (w_X2_ordersFor res.2.1 res.2.2.1 res.2.2.2.1 res.2.2.2.2.1 res.2.2.2.2.2.1 c_board_askers c_board_places c_board_age res.2.2.2.2.2.2.1 res.2.2.2.2.2.2.2 c_board_likes c_board_seats c_board_wishes)) ad 0 0 46 (w_X2_ordersFor c_age c_runs c_wanting c_wanted c_answers c_board_askers c_board_places c_board_age c_memoKeys c_memos c_board_likes c_board_seats c_board_wishes) [some (.ref 0), some (.int v1), some (.int v2), none] [] := by
  refine G_aload_n dX2_ordersFor_46 rfl rfl ?_
  refine G_get (v := .ref 1) F_X2_15 dX2_ordersFor_47 rfl rfl ?_
  refine G_iload_n dX2_ordersFor_50 rfl rfl ?_
  refine G_bipush 6 dX2_ordersFor_51 (by decide) ?_
  refine G_imul dX2_ordersFor_53 ?_
  refine G_iload_n dX2_ordersFor_54 rfl rfl ?_
  refine G_iadd dX2_ordersFor_55 ?_
  obtain ⟨t1, ht1, hf⟩ := ob hf
  refine G_iald dX2_ordersFor_56 rfl ht1 ?_
  refine G_iconst (-1 : Int32) dX2_ordersFor_57 (by decide) ?_
  refine G_icmp_ne 121 dX2_ordersFor_58 (by decide) (fun h2 => ?_) (fun h2 => ?_)
  · replace hf := ob_f h2 hf
    exact g_X2_ordersFor_121 hf
  · replace hf := ob_t h2 hf
    refine G_aload_n dX2_ordersFor_61 rfl rfl ?_
    refine G_iload_n dX2_ordersFor_62 rfl rfl ?_
    refine G_put (w2 := (w_X2_ordersFor c_age c_runs v1 c_wanted c_answers c_board_askers c_board_places c_board_age c_memoKeys c_memos c_board_likes c_board_seats c_board_wishes)) F_X2_33 dX2_ordersFor_63 rfl rfl rfl (ltb rfl) rfl ?_
    refine G_aload_n dX2_ordersFor_66 rfl rfl ?_
    refine G_iload_n dX2_ordersFor_67 rfl rfl ?_
    refine G_put (w2 := (w_X2_ordersFor c_age c_runs v1 v2 c_answers c_board_askers c_board_places c_board_age c_memoKeys c_memos c_board_likes c_board_seats c_board_wishes)) F_X2_36 dX2_ordersFor_68 rfl rfl rfl (ltb rfl) rfl ?_
    refine G_aload_n dX2_ordersFor_71 rfl rfl ?_
    refine G_dup dX2_ordersFor_72 rfl ?_
    refine G_get (v := .long c_runs) F_X2_39 dX2_ordersFor_73 rfl rfl ?_
    refine G_lconst 1 dX2_ordersFor_76 (by decide) ?_
    refine G_ladd dX2_ordersFor_77 ?_
    refine G_put (w2 := (w_X2_ordersFor c_age (c_runs + 1) v1 v2 c_answers c_board_askers c_board_places c_board_age c_memoKeys c_memos c_board_likes c_board_seats c_board_wishes)) F_X2_39 dX2_ordersFor_78 rfl rfl rfl (ltb rfl) rfl ?_
    refine G_aload_n dX2_ordersFor_81 rfl rfl ?_
    refine G_get (v := .ref 1) F_X2_15 dX2_ordersFor_82 rfl rfl ?_
    refine G_iload_n dX2_ordersFor_85 rfl rfl ?_
    refine G_bipush 6 dX2_ordersFor_86 (by decide) ?_
    refine G_imul dX2_ordersFor_88 ?_
    refine G_iload_n dX2_ordersFor_89 rfl rfl ?_
    refine G_iadd dX2_ordersFor_90 ?_
    refine G_aload_n dX2_ordersFor_91 rfl rfl ?_
    refine G_get (v := .ref 2) F_X2_9 dX2_ordersFor_92 rfl rfl ?_
    refine G_iload_n dX2_ordersFor_95 rfl rfl ?_
    refine G_iload_n dX2_ordersFor_96 rfl rfl ?_
    obtain ⟨r3, hc4, hf⟩ := ob hf
    refine G_callV (μ2 := mu_X0_wishOf) (As := [.int v1, .int v2]) (w2 := (w_X2_ordersFor c_age (c_runs + 1) v1 v2 c_answers c_board_askers c_board_places c_board_age c_memoKeys c_memos c_board_likes c_board_seats c_board_wishes)) (wc := (w_X0_wishOf c_board_wishes c_board_askers c_board_places c_board_age)) (wc2 := (w_X0_wishOf c_board_wishes c_board_askers c_board_places c_board_age)) (rest := [.int ((v1 * 6) + v2), .ref 1]) (rv := [.int r3]) [2, 7] [6, 5, 1001] [0, 1, 3, 4, 5, 6] [0, 1, 6, 2, 3, 4, 5, 7] (c_X0_wishOf hc4) cw_X0_wishOf m_X2_43 dX2_ordersFor_97 rfl ⟨leb rfl, leb rfl⟩ ⟨rfl, rfl⟩ rfl ⟨_, rfl, rfl⟩ (Fit.mk rfl rfl rfl) rfl (leb rfl) (ROsub.nil rfl rfl) rfl ?_
    change GG _ _ _ _ _ _ _ _ _ (w_X2_ordersFor c_age (c_runs + 1) v1 v2 c_answers c_board_askers c_board_places c_board_age c_memoKeys c_memos c_board_likes c_board_seats c_board_wishes) [some (.ref 0), some (.int v1), some (.int v2), none] [.int r3, .int ((v1 * 6) + v2), .ref 1]
    refine G_if_ne 107 dX2_ordersFor_100 (by decide) (fun h5 => ?_) (fun h5 => ?_)
    · replace hf := ob_f h5 hf
      refine G_aload_n dX2_ordersFor_107 rfl rfl ?_
      refine G_iconst 0 dX2_ordersFor_108 (by decide) ?_
      refine G_aload_n dX2_ordersFor_109 rfl rfl ?_
      refine G_get (v := .ref 2) F_X2_9 dX2_ordersFor_110 rfl rfl ?_
      obtain ⟨r6, hc7, hf⟩ := ob hf
      refine G_callV (μ2 := mu_X0_seatBits) (As := []) (w2 := (w_X2_ordersFor c_age (c_runs + 1) v1 v2 c_answers c_board_askers c_board_places c_board_age c_memoKeys c_memos c_board_likes c_board_seats c_board_wishes)) (wc := (w_X0_seatBits c_board_places c_board_seats c_board_askers c_board_age)) (wc2 := (w_X0_seatBits c_board_places c_board_seats c_board_askers c_board_age)) (rest := [.int 0, .ref 0, .int ((v1 * 6) + v2), .ref 1]) (rv := [.int r6]) [2, 6] [7, 5, 1001] [0, 1, 3, 4, 5, 7] [0, 1, 6, 2, 3, 4, 7, 5] (c_X0_seatBits hc7) cw_X0_seatBits m_X2_47 dX2_ordersFor_113 rfl ⟨leb rfl, leb rfl⟩ ⟨rfl, rfl⟩ rfl ⟨_, rfl, rfl⟩ (Fit.mk rfl rfl rfl) rfl (leb rfl) (ROsub.nil rfl rfl) rfl ?_
      change GG _ _ _ _ _ _ _ _ _ (w_X2_ordersFor c_age (c_runs + 1) v1 v2 c_answers c_board_askers c_board_places c_board_age c_memoKeys c_memos c_board_likes c_board_seats c_board_wishes) [some (.ref 0), some (.int v1), some (.int v2), none] [.int r6, .int 0, .ref 0, .int ((v1 * 6) + v2), .ref 1]
      refine G_iconst 0 dX2_ordersFor_116 (by decide) ?_
      obtain ⟨⟨r8, o9, o10⟩, hc11, hf⟩ := ob hf
      refine G_callS (μ2 := (mu_X2_ordersFrom 10)) (As := [.ref 0, .int 0, .int r6, .int 0]) (w2 := (w_X2_ordersFor c_age (c_runs + 1) v1 v2 c_answers c_board_askers c_board_places c_board_age o9 o10 c_board_likes c_board_seats c_board_wishes)) (wc := (w_X2_ordersFrom (c_runs + 1) v1 v2 c_board_askers c_memoKeys c_memos c_board_likes c_age c_board_places c_board_age)) (wc2 := (w_X2_ordersFrom (c_runs + 1) v1 v2 c_board_askers o9 o10 c_board_likes c_age c_board_places c_board_age)) (rest := [.int ((v1 * 6) + v2), .ref 1]) (rv := [.int r8]) [0, 2, 3, 4, 5] [1000, 1, 6, 7, 1001] [1, 6, 7] [3, 0, 4, 5, 6, 7, 1, 2] (c_X2_ordersFrom 10 hc11) cw_X2_ordersFrom m_X2_51 rfl dX2_ordersFor_117 rfl ⟨leb rfl, leb rfl⟩ ⟨rfl, rfl⟩ (Fit.mk rfl rfl rfl) rfl (leb rfl) ⟨(List.forall_mem_cons.mpr ⟨⟨_, List.mem_of_getElem? (i := 0) rfl, rfl, rfl⟩, (fun _ h => absurd h List.not_mem_nil)⟩), (List.forall_mem_cons.mpr ⟨⟨_, List.mem_of_getElem? (i := 0) rfl, rfl, rfl, rfl⟩, (fun _ h => absurd h List.not_mem_nil)⟩)⟩ rfl ?_
      change GG _ _ _ _ _ _ _ _ _ (w_X2_ordersFor c_age (c_runs + 1) v1 v2 c_answers c_board_askers c_board_places c_board_age o9 o10 c_board_likes c_board_seats c_board_wishes) [some (.ref 0), some (.int v1), some (.int v2), none] [.int r8, .int ((v1 * 6) + v2), .ref 1]
      exact g_X2_ordersFor_120 hf
    · replace hf := ob_t h5 hf
      refine G_iconst 0 dX2_ordersFor_103 (by decide) ?_
      refine G_goto 120 dX2_ordersFor_104 (by decide) ?_
      exact g_X2_ordersFor_120 hf
def f_X2_ordersFor_27 (N : Nat) (c_board_askers : Int32) (c_board_places : Int32) (c_board_age : Int32) (c_board_likes : Nat → Int32) (c_board_seats : Nat → Int32) (c_board_wishes : Nat → Int32) : Nat → Int32 → Int64 → Int32 → Int32 → (Nat → Int32) → (Nat → Int64) → (Nat → Int32) → Int32 → Int32 → Int32 → Option (Int32 × Int32 × Int64 × Int32 × Int32 × (Nat → Int32) × (Nat → Int64) × (Nat → Int32))
  | 0, _, _, _, _, _, _, _, _, _, _ => none
  | n + 1, c_age, c_runs, c_wanting, c_wanted, c_answers, c_memoKeys, c_memos, v1, v2, v3 =>
    (if 48 ≤ v3 then
      f_X2_ordersFor_46 N c_board_askers c_board_places c_board_age c_board_likes c_board_seats c_board_wishes c_age c_runs c_wanting c_wanted c_answers c_memoKeys c_memos v1 v2
    else
      (wrI 48 c_answers v3 (-1 : Int32)).bind fun t2 =>
      f_X2_ordersFor_27 N c_board_askers c_board_places c_board_age c_board_likes c_board_seats c_board_wishes n c_age c_runs c_wanting c_wanted t2 c_memoKeys c_memos v1 v2 (v3 + 1))
set_option maxHeartbeats 4000000 in
set_option maxRecDepth 100000 in
theorem g_X2_ordersFor_27 {κ : KC} {ω : KW} {A : Nat → Prop} {ad : Nat → Nat}  {N : Nat} {c_board_askers : Int32} {c_board_places : Int32} {c_board_age : Int32} {c_board_likes : Nat → Int32} {c_board_seats : Nat → Int32} {c_board_wishes : Nat → Int32}  {res : Int32 × Int32 × Int64 × Int32 × Int32 × (Nat → Int32) × (Nat → Int64) × (Nat → Int32)} : ∀ (n : Nat) {c_age : Int32} {c_runs : Int64} {c_wanting : Int32} {c_wanted : Int32} {c_answers : Nat → Int32} {c_memoKeys : Nat → Int64} {c_memos : Nat → Int32} {v1 : Int32} {v2 : Int32} {v3 : Int32}, f_X2_ordersFor_27 N c_board_askers c_board_places c_board_age c_board_likes c_board_seats c_board_wishes n c_age c_runs c_wanting c_wanted c_answers c_memoKeys c_memos v1 v2 v3 = some res → GG mu_X2_ordersFor κ ω A (QR κ ω A ad (some (.int res.1)) (w_X2_ordersFor res.2.1 res.2.2.1 res.2.2.2.1 res.2.2.2.2.1 res.2.2.2.2.2.1 c_board_askers c_board_places c_board_age res.2.2.2.2.2.2.1 res.2.2.2.2.2.2.2 c_board_likes c_board_seats c_board_wishes)) ad 0 0 27 (w_X2_ordersFor c_age c_runs c_wanting c_wanted c_answers c_board_askers c_board_places c_board_age c_memoKeys c_memos c_board_likes c_board_seats c_board_wishes) [some (.ref 0), some (.int v1), some (.int v2), some (.int v3)] [] := by
  intro n
  induction n with
  | zero => intro c_age c_runs c_wanting c_wanted c_answers c_memoKeys c_memos v1 v2 v3 hf; exact ob_0 hf
  | succ n ih =>
    intro c_age c_runs c_wanting c_wanted c_answers c_memoKeys c_memos v1 v2 v3 hf
    refine G_iload_n dX2_ordersFor_27 rfl rfl ?_
    refine G_bipush 48 dX2_ordersFor_28 (by decide) ?_
    refine G_icmp_ge 46 dX2_ordersFor_30 (by decide) (fun h1 => ?_) (fun h1 => ?_)
    · replace hf := ob_t h1 hf
      refine GG.sb (lv2 := [some (.ref 0), some (.int v1), some (.int v2), none]) ?_ (lvS_v rfl (lvS_v rfl (lvS_v rfl (lvS_n (lvS_e)))))
      exact g_X2_ordersFor_46 hf
    · replace hf := ob_f h1 hf
      refine G_aload_n dX2_ordersFor_33 rfl rfl ?_
      refine G_get (v := .ref 1) F_X2_15 dX2_ordersFor_34 rfl rfl ?_
      refine G_iload_n dX2_ordersFor_37 rfl rfl ?_
      refine G_iconst (-1 : Int32) dX2_ordersFor_38 (by decide) ?_
      obtain ⟨t2, ht2, hf⟩ := ob hf
      refine G_iast (w2 := (w_X2_ordersFor c_age c_runs c_wanting c_wanted t2 c_board_askers c_board_places c_board_age c_memoKeys c_memos c_board_likes c_board_seats c_board_wishes)) dX2_ordersFor_39 rfl ht2 rfl ?_
      refine G_iinc 1 dX2_ordersFor_40 (by decide) rfl (ltb rfl) ?_
      change GG _ _ _ _ _ _ _ _ _ _ [some (.ref 0), some (.int v1), some (.int v2), some (.int (v3 + 1))] _
      refine G_goto 27 dX2_ordersFor_43 (by decide) ?_
      exact ih hf
def f_X2_ordersFor (N : Nat) (c_board_askers : Int32) (c_board_places : Int32) (c_board_age : Int32) (c_board_likes : Nat → Int32) (c_board_seats : Nat → Int32) (c_board_wishes : Nat → Int32) (c_age : Int32) (c_runs : Int64) (c_wanting : Int32) (c_wanted : Int32) (c_answers : Nat → Int32) (c_memoKeys : Nat → Int64) (c_memos : Nat → Int32) (a1 : Int32) (a2 : Int32) : Option (Int32 × Int32 × Int64 × Int32 × Int32 × (Nat → Int32) × (Nat → Int64) × (Nat → Int32)) :=
  (if c_age = c_board_age then
    f_X2_ordersFor_46 N c_board_askers c_board_places c_board_age c_board_likes c_board_seats c_board_wishes c_age c_runs c_wanting c_wanted c_answers c_memoKeys c_memos a1 a2
  else
    f_X2_ordersFor_27 N c_board_askers c_board_places c_board_age c_board_likes c_board_seats c_board_wishes N c_board_age c_runs c_wanting c_wanted c_answers c_memoKeys c_memos a1 a2 0)
set_option maxHeartbeats 4000000 in
set_option maxRecDepth 100000 in
theorem c_X2_ordersFor {N : Nat} {c_board_askers : Int32} {c_board_places : Int32} {c_board_age : Int32} {c_board_likes : Nat → Int32} {c_board_seats : Nat → Int32} {c_board_wishes : Nat → Int32} {c_age : Int32} {c_runs : Int64} {c_wanting : Int32} {c_wanted : Int32} {c_answers : Nat → Int32} {c_memoKeys : Nat → Int64} {c_memos : Nat → Int32}  {a1 : Int32} {a2 : Int32} {res : Int32 × Int32 × Int64 × Int32 × Int32 × (Nat → Int32) × (Nat → Int64) × (Nat → Int32)} (hf : f_X2_ordersFor N c_board_askers c_board_places c_board_age c_board_likes c_board_seats c_board_wishes c_age c_runs c_wanting c_wanted c_answers c_memoKeys c_memos a1 a2 = some res) : Con mu_X2_ordersFor [.ref 0, .int a1, .int a2] (w_X2_ordersFor c_age c_runs c_wanting c_wanted c_answers c_board_askers c_board_places c_board_age c_memoKeys c_memos c_board_likes c_board_seats c_board_wishes) (some (.int res.1)) (w_X2_ordersFor res.2.1 res.2.2.1 res.2.2.2.1 res.2.2.2.2.1 res.2.2.2.2.2.1 c_board_askers c_board_places c_board_age res.2.2.2.2.2.2.1 res.2.2.2.2.2.2.2 c_board_likes c_board_seats c_board_wishes) := by
  refine Con.mk (show plainName RX2 = true by decide +kernel) (leb rfl) (fun κ ω A ad => ?_)
  change GG mu_X2_ordersFor κ ω A (QR κ ω A ad (some (.int res.1)) (w_X2_ordersFor res.2.1 res.2.2.1 res.2.2.2.1 res.2.2.2.2.1 res.2.2.2.2.2.1 c_board_askers c_board_places c_board_age res.2.2.2.2.2.2.1 res.2.2.2.2.2.2.2 c_board_likes c_board_seats c_board_wishes)) ad 0 0 0 (w_X2_ordersFor c_age c_runs c_wanting c_wanted c_answers c_board_askers c_board_places c_board_age c_memoKeys c_memos c_board_likes c_board_seats c_board_wishes) [some (.ref 0), some (.int a1), some (.int a2), none] []
  refine G_aload_n dX2_ordersFor_0 rfl rfl ?_
  refine G_get (v := .int c_age) F_X2_26 dX2_ordersFor_1 rfl rfl ?_
  refine G_aload_n dX2_ordersFor_4 rfl rfl ?_
  refine G_get (v := .ref 2) F_X2_9 dX2_ordersFor_5 rfl rfl ?_
  refine G_get (v := .int c_board_age) F_X2_30 dX2_ordersFor_8 rfl rfl ?_
  refine G_icmp_eq 46 dX2_ordersFor_11 (by decide) (fun h1 => ?_) (fun h1 => ?_)
  · replace hf := ob_t h1 hf
    exact g_X2_ordersFor_46 hf
  · replace hf := ob_f h1 hf
    refine G_aload_n dX2_ordersFor_14 rfl rfl ?_
    refine G_aload_n dX2_ordersFor_15 rfl rfl ?_
    refine G_get (v := .ref 2) F_X2_9 dX2_ordersFor_16 rfl rfl ?_
    refine G_get (v := .int c_board_age) F_X2_30 dX2_ordersFor_19 rfl rfl ?_
    refine G_put (w2 := (w_X2_ordersFor c_board_age c_runs c_wanting c_wanted c_answers c_board_askers c_board_places c_board_age c_memoKeys c_memos c_board_likes c_board_seats c_board_wishes)) F_X2_26 dX2_ordersFor_22 rfl rfl rfl (ltb rfl) rfl ?_
    refine G_iconst 0 dX2_ordersFor_25 (by decide) ?_
    refine G_istore_n dX2_ordersFor_26 rfl (ltb rfl) ?_
    change GG _ _ _ _ _ _ _ _ _ _ [some (.ref 0), some (.int a1), some (.int a2), some (.int 0)] _
    exact g_X2_ordersFor_27 N hf
