/-! printed by wip/gen: WishPlaces$Ring, part 0 -/
set_option maxRecDepth 100000 in
theorem uX3 : ∀ w ∈ u_ws RX3 TX3 4, w ∈ ALLW := by decide +kernel
theorem F_X3_9 : FLD RX3 9 3 0 (.object "WishPlaces$Board") true := ⟨RX3, TX3, 4, tyX3, rfl, by decide, uX3, all_of 172 (by decide +kernel) (by decide +kernel), tyX3_ok, rfl, nmX3, rfl⟩
theorem F_X3_15 : FLD RX3 15 3 1 (.array .int) true := ⟨RX3, TX3, 4, tyX3, rfl, by decide, uX3, all_of 173 (by decide +kernel) (by decide +kernel), tyX3_ok, rfl, nmX3, rfl⟩
theorem F_X3_19 : FLD RX3 19 3 3 (.array .int) true := ⟨RX3, TX3, 4, tyX3, rfl, by decide, uX3, all_of 177 (by decide +kernel) (by decide +kernel), tyX3_ok, rfl, nmX3, rfl⟩
theorem F_X3_22 : FLD RX3 22 0 0 .int false := ⟨RX0, TX0, 7, tyX0, rfl, by decide, uX0, all_of 28 (by decide +kernel) (by decide +kernel), tyX0_ok, rfl, nmX0, rfl⟩
theorem F_X3_32 : FLD RX3 32 3 2 .int false := ⟨RX3, TX3, 4, tyX3, rfl, by decide, uX3, all_of 175 (by decide +kernel) (by decide +kernel), tyX3_ok, rfl, nmX3, rfl⟩
theorem m_X3_28 : Cond.methodLink RX3 28 yX3_wantsOf ∈ ALLW := all_of 657 (by decide +kernel) (by decide +kernel)
theorem m_X3_35 : Cond.methodLink RX3 35 yX3_hasRing ∈ ALLW := all_of 664 (by decide +kernel) (by decide +kernel)
theorem m_X3_39 : Cond.methodLink RX3 39 yX0_toldOf ∈ ALLW := all_of 661 (by decide +kernel) (by decide +kernel)
theorem m_X3_43 : Cond.methodLink RX3 43 yX0_worthOf ∈ ALLW := all_of 662 (by decide +kernel) (by decide +kernel)
theorem m_X3_46 : Cond.methodLink RX3 46 yX0_toldWorth ∈ ALLW := all_of 663 (by decide +kernel) (by decide +kernel)
theorem m_X3_49 : Cond.methodLink RX3 49 yX3_closes ∈ ALLW := all_of 668 (by decide +kernel) (by decide +kernel)
abbrev mu_X3_wantsOf : KM := (yX3_wantsOf, cX3_wantsOf, 7, (some .int), { frames := 2, cells := 0, slots := 0, locals := 45 }, [], [])
def w_X3_wantsOf (c_board_askers : Int32) (c_board_told : Nat → Int32) (c_board_wishes : Nat → Int32) (u_length : Int32) (u_board_places : Int32) (u_board_age : Int32) : List mE := [.inr (3, [.ref 1, .ref 1000, .int u_length, .ref 1001]), .inr (0, [.int c_board_askers, .int u_board_places, .int u_board_age, .ref 1002, .ref 3, .ref 1003, .ref 2]), .inl (0, 32, .inl c_board_told), .inl (0, 48, .inl c_board_wishes)]
theorem cw_X3_wantsOf : CWv mu_X3_wantsOf 3 := ⟨⟨all_of 660 (by decide +kernel) (by decide +kernel), all_of 6 (by decide +kernel) (by decide +kernel), by decide +kernel, by decide +kernel, by decide +kernel⟩, all_of 659 (by decide +kernel) (by decide +kernel), all_pr 36 (by decide +kernel) (by decide +kernel)⟩
abbrev mu_X3_closes (d : Nat) : KM := (yX3_closes, cX3_closes, 6, (some .boolean), { frames := 2 * d + 4, cells := 0, slots := 0, locals := 70 * d + 100 }, [], [])
def w_X3_closes (c_a0_board_askers : Int32) (c_a0_members : Nat → Int32) (c_a0_wants : Nat → Int32) (u_a0_length : Int32) (u_a0_board_places : Int32) (u_a0_board_age : Int32) : List mE := [.inr (3, [.ref 1, .ref 2, .int u_a0_length, .ref 3]), .inr (0, [.int c_a0_board_askers, .int u_a0_board_places, .int u_a0_board_age, .ref 1000, .ref 1001, .ref 1002, .ref 1003]), .inl (0, 8, .inl c_a0_members), .inl (0, 8, .inl c_a0_wants)]
theorem cwz_X3_closes : CWs (mu_X3_closes 0) 4 := ⟨⟨all_of 670 (by decide +kernel) (by decide +kernel), all_of 6 (by decide +kernel) (by decide +kernel), by decide +kernel, by decide +kernel, by decide +kernel⟩, all_of 669 (by decide +kernel) (by decide +kernel)⟩
theorem cw_X3_closes {d : Nat} : CWs (mu_X3_closes d) 4 := cwz_X3_closes
abbrev mu_X3_hasRing : KM := (yX3_hasRing, cX3_hasRing, 3, (some .boolean), { frames := 23, cells := 0, slots := 0, locals := 755 }, [], [])
def w_X3_hasRing (c_board_askers : Int32) (c_members : Nat → Int32) (c_wants : Nat → Int32) (u_length : Int32) (u_board_places : Int32) (u_board_age : Int32) : List mE := [.inr (3, [.ref 1, .ref 2, .int u_length, .ref 3]), .inr (0, [.int c_board_askers, .int u_board_places, .int u_board_age, .ref 1000, .ref 1001, .ref 1002, .ref 1003]), .inl (0, 8, .inl c_members), .inl (0, 8, .inl c_wants)]
theorem cw_X3_hasRing : CWv mu_X3_hasRing 1 := ⟨⟨all_of 667 (by decide +kernel) (by decide +kernel), all_of 6 (by decide +kernel) (by decide +kernel), by decide +kernel, by decide +kernel, by decide +kernel⟩, all_of 666 (by decide +kernel) (by decide +kernel), all_pr 37 (by decide +kernel) (by decide +kernel)⟩
abbrev mu_X3_find : KM := (yX3_find, cX3_find, 4, none, { frames := 24, cells := 0, slots := 0, locals := 777 }, [], [])
def w_X3_find (c_length : Int32) (c_board_askers : Int32) (c_members : Nat → Int32) (c_wants : Nat → Int32) (c_board_told : Nat → Int32) (c_board_wishes : Nat → Int32) (u_board_places : Int32) (u_board_age : Int32) : List mE := [.inr (3, [.ref 1, .ref 2, .int c_length, .ref 3]), .inr (0, [.int c_board_askers, .int u_board_places, .int u_board_age, .ref 1000, .ref 5, .ref 1001, .ref 4]), .inl (0, 8, .inl c_members), .inl (0, 8, .inl c_wants), .inl (0, 32, .inl c_board_told), .inl (0, 48, .inl c_board_wishes)]
theorem cw_X3_find : CWv mu_X3_find 2 := ⟨⟨all_of 656 (by decide +kernel) (by decide +kernel), all_of 6 (by decide +kernel) (by decide +kernel), by decide +kernel, by decide +kernel, by decide +kernel⟩, all_of 654 (by decide +kernel) (by decide +kernel), all_of 655 (by decide +kernel) (by decide +kernel)⟩
set_option maxRecDepth 20000 in
theorem dX3_wantsOf_0 : decode cX3_wantsOf 0 = .ok (.iconst 0, 1) := by decide +kernel
set_option maxRecDepth 20000 in
theorem dX3_wantsOf_1 : decode cX3_wantsOf 1 = .ok (.istore 4, 2) := by decide +kernel
set_option maxRecDepth 20000 in
theorem dX3_wantsOf_3 : decode cX3_wantsOf 3 = .ok (.aload_n 0, 1) := by decide +kernel
set_option maxRecDepth 20000 in
theorem dX3_wantsOf_4 : decode cX3_wantsOf 4 = .ok (.getfield 9, 3) := by decide +kernel
set_option maxRecDepth 20000 in
theorem dX3_wantsOf_7 : decode cX3_wantsOf 7 = .ok (.iload_n 2, 1) := by decide +kernel
set_option maxRecDepth 20000 in
theorem dX3_wantsOf_8 : decode cX3_wantsOf 8 = .ok (.iload_n 3, 1) := by decide +kernel
set_option maxRecDepth 20000 in
theorem dX3_wantsOf_9 : decode cX3_wantsOf 9 = .ok (.invokevirtual 39, 3) := by decide +kernel
set_option maxRecDepth 20000 in
theorem dX3_wantsOf_12 : decode cX3_wantsOf 12 = .ok (.iconst (-1), 1) := by decide +kernel
set_option maxRecDepth 20000 in
theorem dX3_wantsOf_13 : decode cX3_wantsOf 13 = .ok (.if_icmp .ne 6, 3) := by decide +kernel
set_option maxRecDepth 20000 in
theorem dX3_wantsOf_16 : decode cX3_wantsOf 16 = .ok (.iload 4, 2) := by decide +kernel
set_option maxRecDepth 20000 in
theorem dX3_wantsOf_18 : decode cX3_wantsOf 18 = .ok (.ireturn, 1) := by decide +kernel
set_option maxRecDepth 20000 in
theorem dX3_wantsOf_19 : decode cX3_wantsOf 19 = .ok (.iconst 0, 1) := by decide +kernel
set_option maxRecDepth 20000 in
theorem dX3_wantsOf_20 : decode cX3_wantsOf 20 = .ok (.istore 5, 2) := by decide +kernel
set_option maxRecDepth 20000 in
theorem dX3_wantsOf_22 : decode cX3_wantsOf 22 = .ok (.iload 5, 2) := by decide +kernel
set_option maxRecDepth 20000 in
theorem dX3_wantsOf_24 : decode cX3_wantsOf 24 = .ok (.aload_n 0, 1) := by decide +kernel
set_option maxRecDepth 20000 in
theorem dX3_wantsOf_25 : decode cX3_wantsOf 25 = .ok (.getfield 9, 3) := by decide +kernel
set_option maxRecDepth 20000 in
theorem dX3_wantsOf_28 : decode cX3_wantsOf 28 = .ok (.getfield 22, 3) := by decide +kernel
set_option maxRecDepth 20000 in
theorem dX3_wantsOf_31 : decode cX3_wantsOf 31 = .ok (.if_icmp .ge 58, 3) := by decide +kernel
set_option maxRecDepth 20000 in
theorem dX3_wantsOf_34 : decode cX3_wantsOf 34 = .ok (.aload_n 0, 1) := by decide +kernel
set_option maxRecDepth 20000 in
theorem dX3_wantsOf_35 : decode cX3_wantsOf 35 = .ok (.getfield 9, 3) := by decide +kernel
set_option maxRecDepth 20000 in
theorem dX3_wantsOf_38 : decode cX3_wantsOf 38 = .ok (.iload_n 2, 1) := by decide +kernel
set_option maxRecDepth 20000 in
theorem dX3_wantsOf_39 : decode cX3_wantsOf 39 = .ok (.iload 5, 2) := by decide +kernel
set_option maxRecDepth 20000 in
theorem dX3_wantsOf_41 : decode cX3_wantsOf 41 = .ok (.invokevirtual 39, 3) := by decide +kernel
set_option maxRecDepth 20000 in
theorem dX3_wantsOf_44 : decode cX3_wantsOf 44 = .ok (.istore 6, 2) := by decide +kernel
set_option maxRecDepth 20000 in
theorem dX3_wantsOf_46 : decode cX3_wantsOf 46 = .ok (.iload 6, 2) := by decide +kernel
set_option maxRecDepth 20000 in
theorem dX3_wantsOf_48 : decode cX3_wantsOf 48 = .ok (.iconst (-1), 1) := by decide +kernel
set_option maxRecDepth 20000 in
theorem dX3_wantsOf_49 : decode cX3_wantsOf 49 = .ok (.if_icmp .eq 34, 3) := by decide +kernel
set_option maxRecDepth 20000 in
theorem dX3_wantsOf_52 : decode cX3_wantsOf 52 = .ok (.aload_n 0, 1) := by decide +kernel
set_option maxRecDepth 20000 in
theorem dX3_wantsOf_53 : decode cX3_wantsOf 53 = .ok (.getfield 9, 3) := by decide +kernel
set_option maxRecDepth 20000 in
theorem dX3_wantsOf_56 : decode cX3_wantsOf 56 = .ok (.iload_n 3, 1) := by decide +kernel
set_option maxRecDepth 20000 in
theorem dX3_wantsOf_57 : decode cX3_wantsOf 57 = .ok (.iload 6, 2) := by decide +kernel
set_option maxRecDepth 20000 in
theorem dX3_wantsOf_59 : decode cX3_wantsOf 59 = .ok (.invokevirtual 43, 3) := by decide +kernel
set_option maxRecDepth 20000 in
theorem dX3_wantsOf_62 : decode cX3_wantsOf 62 = .ok (.aload_n 0, 1) := by decide +kernel
set_option maxRecDepth 20000 in
theorem dX3_wantsOf_63 : decode cX3_wantsOf 63 = .ok (.getfield 9, 3) := by decide +kernel
set_option maxRecDepth 20000 in
theorem dX3_wantsOf_66 : decode cX3_wantsOf 66 = .ok (.iload_n 1, 1) := by decide +kernel
set_option maxRecDepth 20000 in
theorem dX3_wantsOf_67 : decode cX3_wantsOf 67 = .ok (.iload_n 3, 1) := by decide +kernel
set_option maxRecDepth 20000 in
theorem dX3_wantsOf_68 : decode cX3_wantsOf 68 = .ok (.invokevirtual 46, 3) := by decide +kernel
set_option maxRecDepth 20000 in
theorem dX3_wantsOf_71 : decode cX3_wantsOf 71 = .ok (.if_icmp .ge 12, 3) := by decide +kernel
set_option maxRecDepth 20000 in
theorem dX3_wantsOf_74 : decode cX3_wantsOf 74 = .ok (.iload 4, 2) := by decide +kernel
set_option maxRecDepth 20000 in
theorem dX3_wantsOf_76 : decode cX3_wantsOf 76 = .ok (.iconst 1, 1) := by decide +kernel
set_option maxRecDepth 20000 in
theorem dX3_wantsOf_77 : decode cX3_wantsOf 77 = .ok (.iload 5, 2) := by decide +kernel
set_option maxRecDepth 20000 in
theorem dX3_wantsOf_79 : decode cX3_wantsOf 79 = .ok (.ishl, 1) := by decide +kernel
set_option maxRecDepth 20000 in
theorem dX3_wantsOf_80 : decode cX3_wantsOf 80 = .ok (.ior, 1) := by decide +kernel
set_option maxRecDepth 20000 in
theorem dX3_wantsOf_81 : decode cX3_wantsOf 81 = .ok (.istore 4, 2) := by decide +kernel
set_option maxRecDepth 20000 in
theorem dX3_wantsOf_83 : decode cX3_wantsOf 83 = .ok (.iinc 5 1, 3) := by decide +kernel
set_option maxRecDepth 20000 in
theorem dX3_wantsOf_86 : decode cX3_wantsOf 86 = .ok (.goto (-64), 3) := by decide +kernel
set_option maxRecDepth 20000 in
theorem dX3_wantsOf_89 : decode cX3_wantsOf 89 = .ok (.iload 4, 2) := by decide +kernel
set_option maxRecDepth 20000 in
theorem dX3_wantsOf_91 : decode cX3_wantsOf 91 = .ok (.ireturn, 1) := by decide +kernel
def f_X3_wantsOf_22 (N : Nat) (c_board_askers : Int32) (c_board_told : Nat → Int32) (c_board_wishes : Nat → Int32) : Nat → Int32 → Int32 → Int32 → Int32 → Int32 → Option (Int32)
  | 0, _, _, _, _, _ => none
  | n + 1, v1, v2, v3, v4, v5 =>
    (if c_board_askers ≤ v5 then
      some v4
    else
      (f_X0_toldOf N c_board_told v2 v5).bind fun r2 =>
      (if r2 = (-1 : Int32) then
        f_X3_wantsOf_22 N c_board_askers c_board_told c_board_wishes n v1 v2 v3 v4 (v5 + 1)
      else
        (f_X0_worthOf N c_board_wishes v3 r2).bind fun r5 =>
        (f_X0_toldWorth N c_board_told c_board_wishes v1 v3).bind fun r7 =>
        (if r7 ≤ r5 then
          f_X3_wantsOf_22 N c_board_askers c_board_told c_board_wishes n v1 v2 v3 v4 (v5 + 1)
        else
          f_X3_wantsOf_22 N c_board_askers c_board_told c_board_wishes n v1 v2 v3 (v4 ||| ((1 : Int32) <<< (v5 &&& 31))) (v5 + 1))))
set_option maxHeartbeats 4000000 in
set_option maxRecDepth 100000 in
theorem g_X3_wantsOf_22 {κ : KC} {ω : KW} {A : Nat → Prop} {ad : Nat → Nat} {u_length : Int32} {u_board_places : Int32} {u_board_age : Int32} {N : Nat} {c_board_askers : Int32} {c_board_told : Nat → Int32} {c_board_wishes : Nat → Int32}  {res : Int32} : ∀ (n : Nat) {v1 : Int32} {v2 : Int32} {v3 : Int32} {v4 : Int32} {v5 : Int32}, f_X3_wantsOf_22 N c_board_askers c_board_told c_board_wishes n v1 v2 v3 v4 v5 = some res → GG mu_X3_wantsOf κ ω A (QR κ ω A ad (some (.int res)) (w_X3_wantsOf c_board_askers c_board_told c_board_wishes u_length u_board_places u_board_age)) ad 0 0 22 (w_X3_wantsOf c_board_askers c_board_told c_board_wishes u_length u_board_places u_board_age) [some (.ref 0), some (.int v1), some (.int v2), some (.int v3), some (.int v4), some (.int v5), none] [] := by
  intro n
  induction n with
  | zero => intro v1 v2 v3 v4 v5 hf; exact ob_0 hf
  | succ n ih =>
    intro v1 v2 v3 v4 v5 hf
    refine G_iload dX3_wantsOf_22 rfl ?_
    refine G_aload_n dX3_wantsOf_24 rfl rfl ?_
    refine G_get (v := .ref 1) F_X3_9 dX3_wantsOf_25 rfl rfl ?_
    refine G_get (v := .int c_board_askers) F_X3_22 dX3_wantsOf_28 rfl rfl ?_
    refine G_icmp_ge 89 dX3_wantsOf_31 (by decide) (fun h1 => ?_) (fun h1 => ?_)
    · replace hf := ob_t h1 hf
      refine G_iload dX3_wantsOf_89 rfl ?_
      obtain rfl := os hf
      exact G_ireturn dX3_wantsOf_91 rfl
    · replace hf := ob_f h1 hf
      refine G_aload_n dX3_wantsOf_34 rfl rfl ?_
      refine G_get (v := .ref 1) F_X3_9 dX3_wantsOf_35 rfl rfl ?_
      refine G_iload_n dX3_wantsOf_38 rfl rfl ?_
      refine G_iload dX3_wantsOf_39 rfl ?_
      obtain ⟨r2, hc3, hf⟩ := ob hf
      refine G_callV (μ2 := mu_X0_toldOf) (As := [.int v2, .int v5]) (w2 := (w_X3_wantsOf c_board_askers c_board_told c_board_wishes u_length u_board_places u_board_age)) (wc := (w_X0_toldOf c_board_told c_board_askers u_board_places u_board_age)) (wc2 := (w_X0_toldOf c_board_told c_board_askers u_board_places u_board_age)) (rest := []) (rv := [.int r2]) [1, 2] [1002, 3, 1003] [0, 3] [0, 2, 3, 1] (c_X0_toldOf hc3) cw_X0_toldOf m_X3_39 dX3_wantsOf_41 rfl ⟨leb rfl, leb rfl⟩ ⟨rfl, rfl⟩ rfl ⟨_, rfl, rfl⟩ (Fit.mk rfl rfl rfl) rfl (leb rfl) (ROsub.nil rfl rfl) rfl ?_
      change GG _ _ _ _ _ _ _ _ _ (w_X3_wantsOf c_board_askers c_board_told c_board_wishes u_length u_board_places u_board_age) [some (.ref 0), some (.int v1), some (.int v2), some (.int v3), some (.int v4), some (.int v5), none] [.int r2]
      refine G_istore dX3_wantsOf_44 (ltb rfl) ?_
      change GG _ _ _ _ _ _ _ _ _ _ [some (.ref 0), some (.int v1), some (.int v2), some (.int v3), some (.int v4), some (.int v5), some (.int r2)] _
      refine G_iload dX3_wantsOf_46 rfl ?_
      refine G_iconst (-1 : Int32) dX3_wantsOf_48 (by decide) ?_
      refine G_icmp_eq 83 dX3_wantsOf_49 (by decide) (fun h4 => ?_) (fun h4 => ?_)
      · replace hf := ob_t h4 hf
        refine G_iinc 1 dX3_wantsOf_83 (by decide) rfl (ltb rfl) ?_
        change GG _ _ _ _ _ _ _ _ _ _ [some (.ref 0), some (.int v1), some (.int v2), some (.int v3), some (.int v4), some (.int (v5 + 1)), some (.int r2)] _
        refine G_goto 22 dX3_wantsOf_86 (by decide) ?_
        refine GG.sb (lv2 := [some (.ref 0), some (.int v1), some (.int v2), some (.int v3), some (.int v4), some (.int (v5 + 1)), none]) ?_ (lvS_v rfl (lvS_v rfl (lvS_v rfl (lvS_v rfl (lvS_v rfl (lvS_v rfl (lvS_n (lvS_e))))))))
        exact ih hf
      · replace hf := ob_f h4 hf
        refine G_aload_n dX3_wantsOf_52 rfl rfl ?_
        refine G_get (v := .ref 1) F_X3_9 dX3_wantsOf_53 rfl rfl ?_
        refine G_iload_n dX3_wantsOf_56 rfl rfl ?_
        refine G_iload dX3_wantsOf_57 rfl ?_
        obtain ⟨r5, hc6, hf⟩ := ob hf
        refine G_callV (μ2 := mu_X0_worthOf) (As := [.int v3, .int r2]) (w2 := (w_X3_wantsOf c_board_askers c_board_told c_board_wishes u_length u_board_places u_board_age)) (wc := (w_X0_worthOf c_board_wishes c_board_askers u_board_places u_board_age)) (wc2 := (w_X0_worthOf c_board_wishes c_board_askers u_board_places u_board_age)) (rest := []) (rv := [.int r5]) [1, 3] [1002, 1003, 2] [0, 2] [0, 2, 1, 3] (c_X0_worthOf hc6) cw_X0_worthOf m_X3_43 dX3_wantsOf_59 rfl ⟨leb rfl, leb rfl⟩ ⟨rfl, rfl⟩ rfl ⟨_, rfl, rfl⟩ (Fit.mk rfl rfl rfl) rfl (leb rfl) (ROsub.nil rfl rfl) rfl ?_
        change GG _ _ _ _ _ _ _ _ _ (w_X3_wantsOf c_board_askers c_board_told c_board_wishes u_length u_board_places u_board_age) [some (.ref 0), some (.int v1), some (.int v2), some (.int v3), some (.int v4), some (.int v5), some (.int r2)] [.int r5]
        refine G_aload_n dX3_wantsOf_62 rfl rfl ?_
        refine G_get (v := .ref 1) F_X3_9 dX3_wantsOf_63 rfl rfl ?_
        refine G_iload_n dX3_wantsOf_66 rfl rfl ?_
        refine G_iload_n dX3_wantsOf_67 rfl rfl ?_
        obtain ⟨r7, hc8, hf⟩ := ob hf
        refine G_callV (μ2 := mu_X0_toldWorth) (As := [.int v1, .int v3]) (w2 := (w_X3_wantsOf c_board_askers c_board_told c_board_wishes u_length u_board_places u_board_age)) (wc := (w_X0_toldWorth c_board_told c_board_wishes c_board_askers u_board_places u_board_age)) (wc2 := (w_X0_toldWorth c_board_told c_board_wishes c_board_askers u_board_places u_board_age)) (rest := [.int r5]) (rv := [.int r7]) [1, 2, 3] [1002, 1003] [0] [0, 1, 2, 3] (c_X0_toldWorth hc8) cw_X0_toldWorth m_X3_46 dX3_wantsOf_68 rfl ⟨leb rfl, leb rfl⟩ ⟨rfl, rfl⟩ rfl ⟨_, rfl, rfl⟩ (Fit.mk rfl rfl rfl) rfl (leb rfl) (ROsub.nil rfl rfl) rfl ?_
        change GG _ _ _ _ _ _ _ _ _ (w_X3_wantsOf c_board_askers c_board_told c_board_wishes u_length u_board_places u_board_age) [some (.ref 0), some (.int v1), some (.int v2), some (.int v3), some (.int v4), some (.int v5), some (.int r2)] [.int r7, .int r5]
        refine G_icmp_ge 83 dX3_wantsOf_71 (by decide) (fun h9 => ?_) (fun h9 => ?_)
        · replace hf := ob_t h9 hf
          refine G_iinc 1 dX3_wantsOf_83 (by decide) rfl (ltb rfl) ?_
          change GG _ _ _ _ _ _ _ _ _ _ [some (.ref 0), some (.int v1), some (.int v2), some (.int v3), some (.int v4), some (.int (v5 + 1)), some (.int r2)] _
          refine G_goto 22 dX3_wantsOf_86 (by decide) ?_
          refine GG.sb (lv2 := [some (.ref 0), some (.int v1), some (.int v2), some (.int v3), some (.int v4), some (.int (v5 + 1)), none]) ?_ (lvS_v rfl (lvS_v rfl (lvS_v rfl (lvS_v rfl (lvS_v rfl (lvS_v rfl (lvS_n (lvS_e))))))))
          exact ih hf
        · replace hf := ob_f h9 hf
          refine G_iload dX3_wantsOf_74 rfl ?_
          refine G_iconst 1 dX3_wantsOf_76 (by decide) ?_
          refine G_iload dX3_wantsOf_77 rfl ?_
          refine G_ishl dX3_wantsOf_79 ?_
          refine G_ior dX3_wantsOf_80 ?_
          refine G_istore dX3_wantsOf_81 (ltb rfl) ?_
          change GG _ _ _ _ _ _ _ _ _ _ [some (.ref 0), some (.int v1), some (.int v2), some (.int v3), some (.int (v4 ||| ((1 : Int32) <<< (v5 &&& 31)))), some (.int v5), some (.int r2)] _
          refine G_iinc 1 dX3_wantsOf_83 (by decide) rfl (ltb rfl) ?_
          change GG _ _ _ _ _ _ _ _ _ _ [some (.ref 0), some (.int v1), some (.int v2), some (.int v3), some (.int (v4 ||| ((1 : Int32) <<< (v5 &&& 31)))), some (.int (v5 + 1)), some (.int r2)] _
          refine G_goto 22 dX3_wantsOf_86 (by decide) ?_
          refine GG.sb (lv2 := [some (.ref 0), some (.int v1), some (.int v2), some (.int v3), some (.int (v4 ||| ((1 : Int32) <<< (v5 &&& 31)))), some (.int (v5 + 1)), none]) ?_ (lvS_v rfl (lvS_v rfl (lvS_v rfl (lvS_v rfl (lvS_v rfl (lvS_v rfl (lvS_n (lvS_e))))))))
          exact ih hf
def f_X3_wantsOf (N : Nat) (c_board_askers : Int32) (c_board_told : Nat → Int32) (c_board_wishes : Nat → Int32) (a1 : Int32) (a2 : Int32) (a3 : Int32) : Option (Int32) :=
  (f_X0_toldOf N c_board_told a2 a3).bind fun r1 =>
  (if r1 = (-1 : Int32) then
    some 0
  else
    f_X3_wantsOf_22 N c_board_askers c_board_told c_board_wishes N a1 a2 a3 0 0)
set_option maxHeartbeats 4000000 in
set_option maxRecDepth 100000 in
theorem c_X3_wantsOf {N : Nat} {c_board_askers : Int32} {c_board_told : Nat → Int32} {c_board_wishes : Nat → Int32}  {u_length : Int32} {u_board_places : Int32} {u_board_age : Int32} {a1 : Int32} {a2 : Int32} {a3 : Int32} {res : Int32} (hf : f_X3_wantsOf N c_board_askers c_board_told c_board_wishes a1 a2 a3 = some res) : Con mu_X3_wantsOf [.ref 0, .int a1, .int a2, .int a3] (w_X3_wantsOf c_board_askers c_board_told c_board_wishes u_length u_board_places u_board_age) (some (.int res)) (w_X3_wantsOf c_board_askers c_board_told c_board_wishes u_length u_board_places u_board_age) := by
  refine Con.mk (show plainName RX3 = true by decide +kernel) (leb rfl) (fun κ ω A ad => ?_)
  change GG mu_X3_wantsOf κ ω A (QR κ ω A ad (some (.int res)) (w_X3_wantsOf c_board_askers c_board_told c_board_wishes u_length u_board_places u_board_age)) ad 0 0 0 (w_X3_wantsOf c_board_askers c_board_told c_board_wishes u_length u_board_places u_board_age) [some (.ref 0), some (.int a1), some (.int a2), some (.int a3), none, none, none] []
  refine G_iconst 0 dX3_wantsOf_0 (by decide) ?_
  refine G_istore dX3_wantsOf_1 (ltb rfl) ?_
  change GG _ _ _ _ _ _ _ _ _ _ [some (.ref 0), some (.int a1), some (.int a2), some (.int a3), some (.int 0), none, none] _
  refine G_aload_n dX3_wantsOf_3 rfl rfl ?_
  refine G_get (v := .ref 1) F_X3_9 dX3_wantsOf_4 rfl rfl ?_
  refine G_iload_n dX3_wantsOf_7 rfl rfl ?_
  refine G_iload_n dX3_wantsOf_8 rfl rfl ?_
  obtain ⟨r1, hc2, hf⟩ := ob hf
  refine G_callV (μ2 := mu_X0_toldOf) (As := [.int a2, .int a3]) (w2 := (w_X3_wantsOf c_board_askers c_board_told c_board_wishes u_length u_board_places u_board_age)) (wc := (w_X0_toldOf c_board_told c_board_askers u_board_places u_board_age)) (wc2 := (w_X0_toldOf c_board_told c_board_askers u_board_places u_board_age)) (rest := []) (rv := [.int r1]) [1, 2] [1002, 3, 1003] [0, 3] [0, 2, 3, 1] (c_X0_toldOf hc2) cw_X0_toldOf m_X3_39 dX3_wantsOf_9 rfl ⟨leb rfl, leb rfl⟩ ⟨rfl, rfl⟩ rfl ⟨_, rfl, rfl⟩ (Fit.mk rfl rfl rfl) rfl (leb rfl) (ROsub.nil rfl rfl) rfl ?_
  change GG _ _ _ _ _ _ _ _ _ (w_X3_wantsOf c_board_askers c_board_told c_board_wishes u_length u_board_places u_board_age) [some (.ref 0), some (.int a1), some (.int a2), some (.int a3), some (.int 0), none, none] [.int r1]
  refine G_iconst (-1 : Int32) dX3_wantsOf_12 (by decide) ?_
  refine G_icmp_ne 19 dX3_wantsOf_13 (by decide) (fun h3 => ?_) (fun h3 => ?_)
  · replace hf := ob_f h3 hf
    refine G_iconst 0 dX3_wantsOf_19 (by decide) ?_
    refine G_istore dX3_wantsOf_20 (ltb rfl) ?_
    change GG _ _ _ _ _ _ _ _ _ _ [some (.ref 0), some (.int a1), some (.int a2), some (.int a3), some (.int 0), some (.int 0), none] _
    exact g_X3_wantsOf_22 N hf
  · replace hf := ob_t h3 hf
    refine G_iload dX3_wantsOf_16 rfl ?_
    obtain rfl := os hf
    exact G_ireturn dX3_wantsOf_18 rfl
set_option maxRecDepth 20000 in
theorem dX3_closes_0 : decode cX3_closes 0 = .ok (.iload_n 1, 1) := by decide +kernel
set_option maxRecDepth 20000 in
theorem dX3_closes_1 : decode cX3_closes 1 = .ok (.iconst 1, 1) := by decide +kernel
set_option maxRecDepth 20000 in
theorem dX3_closes_2 : decode cX3_closes 2 = .ok (.if_icmp .lt 9, 3) := by decide +kernel
set_option maxRecDepth 20000 in
theorem dX3_closes_5 : decode cX3_closes 5 = .ok (.iload_n 1, 1) := by decide +kernel
set_option maxRecDepth 20000 in
theorem dX3_closes_6 : decode cX3_closes 6 = .ok (.bipush 8, 2) := by decide +kernel
set_option maxRecDepth 20000 in
theorem dX3_closes_8 : decode cX3_closes 8 = .ok (.if_icmp .le 5, 3) := by decide +kernel
set_option maxRecDepth 20000 in
theorem dX3_closes_11 : decode cX3_closes 11 = .ok (.iconst 0, 1) := by decide +kernel
set_option maxRecDepth 20000 in
theorem dX3_closes_12 : decode cX3_closes 12 = .ok (.ireturn, 1) := by decide +kernel
set_option maxRecDepth 20000 in
theorem dX3_closes_13 : decode cX3_closes 13 = .ok (.aload_n 0, 1) := by decide +kernel
set_option maxRecDepth 20000 in
theorem dX3_closes_14 : decode cX3_closes 14 = .ok (.getfield 19, 3) := by decide +kernel
set_option maxRecDepth 20000 in
theorem dX3_closes_17 : decode cX3_closes 17 = .ok (.aload_n 0, 1) := by decide +kernel
set_option maxRecDepth 20000 in
theorem dX3_closes_18 : decode cX3_closes 18 = .ok (.getfield 15, 3) := by decide +kernel
set_option maxRecDepth 20000 in
theorem dX3_closes_21 : decode cX3_closes 21 = .ok (.iload_n 1, 1) := by decide +kernel
set_option maxRecDepth 20000 in
theorem dX3_closes_22 : decode cX3_closes 22 = .ok (.iconst 1, 1) := by decide +kernel
set_option maxRecDepth 20000 in
theorem dX3_closes_23 : decode cX3_closes 23 = .ok (.isub, 1) := by decide +kernel
set_option maxRecDepth 20000 in
theorem dX3_closes_24 : decode cX3_closes 24 = .ok (.iaload, 1) := by decide +kernel
set_option maxRecDepth 20000 in
theorem dX3_closes_25 : decode cX3_closes 25 = .ok (.iaload, 1) := by decide +kernel
set_option maxRecDepth 20000 in
theorem dX3_closes_26 : decode cX3_closes 26 = .ok (.istore 4, 2) := by decide +kernel
set_option maxRecDepth 20000 in
theorem dX3_closes_28 : decode cX3_closes 28 = .ok (.iload_n 1, 1) := by decide +kernel
set_option maxRecDepth 20000 in
theorem dX3_closes_29 : decode cX3_closes 29 = .ok (.iload_n 3, 1) := by decide +kernel
set_option maxRecDepth 20000 in
theorem dX3_closes_30 : decode cX3_closes 30 = .ok (.if_icmp .lt 24, 3) := by decide +kernel
set_option maxRecDepth 20000 in
theorem dX3_closes_33 : decode cX3_closes 33 = .ok (.iload 4, 2) := by decide +kernel
set_option maxRecDepth 20000 in
theorem dX3_closes_35 : decode cX3_closes 35 = .ok (.aload_n 0, 1) := by decide +kernel
set_option maxRecDepth 20000 in
theorem dX3_closes_36 : decode cX3_closes 36 = .ok (.getfield 15, 3) := by decide +kernel
set_option maxRecDepth 20000 in
theorem dX3_closes_39 : decode cX3_closes 39 = .ok (.iconst 0, 1) := by decide +kernel
set_option maxRecDepth 20000 in
theorem dX3_closes_40 : decode cX3_closes 40 = .ok (.iaload, 1) := by decide +kernel
set_option maxRecDepth 20000 in
theorem dX3_closes_41 : decode cX3_closes 41 = .ok (.ishr, 1) := by decide +kernel
set_option maxRecDepth 20000 in
theorem dX3_closes_42 : decode cX3_closes 42 = .ok (.iconst 1, 1) := by decide +kernel
set_option maxRecDepth 20000 in
theorem dX3_closes_43 : decode cX3_closes 43 = .ok (.iand, 1) := by decide +kernel
set_option maxRecDepth 20000 in
theorem dX3_closes_44 : decode cX3_closes 44 = .ok (.iconst 1, 1) := by decide +kernel
set_option maxRecDepth 20000 in
theorem dX3_closes_45 : decode cX3_closes 45 = .ok (.if_icmp .ne 7, 3) := by decide +kernel
set_option maxRecDepth 20000 in
theorem dX3_closes_48 : decode cX3_closes 48 = .ok (.iconst 1, 1) := by decide +kernel
set_option maxRecDepth 20000 in
theorem dX3_closes_49 : decode cX3_closes 49 = .ok (.goto 4, 3) := by decide +kernel
set_option maxRecDepth 20000 in
theorem dX3_closes_52 : decode cX3_closes 52 = .ok (.iconst 0, 1) := by decide +kernel
set_option maxRecDepth 20000 in
theorem dX3_closes_53 : decode cX3_closes 53 = .ok (.ireturn, 1) := by decide +kernel
set_option maxRecDepth 20000 in
theorem dX3_closes_54 : decode cX3_closes 54 = .ok (.aload_n 0, 1) := by decide +kernel
set_option maxRecDepth 20000 in
theorem dX3_closes_55 : decode cX3_closes 55 = .ok (.getfield 15, 3) := by decide +kernel
set_option maxRecDepth 20000 in
theorem dX3_closes_58 : decode cX3_closes 58 = .ok (.iconst 0, 1) := by decide +kernel
set_option maxRecDepth 20000 in
theorem dX3_closes_59 : decode cX3_closes 59 = .ok (.iaload, 1) := by decide +kernel
set_option maxRecDepth 20000 in
theorem dX3_closes_60 : decode cX3_closes 60 = .ok (.iconst 1, 1) := by decide +kernel
set_option maxRecDepth 20000 in
theorem dX3_closes_61 : decode cX3_closes 61 = .ok (.iadd, 1) := by decide +kernel
set_option maxRecDepth 20000 in
theorem dX3_closes_62 : decode cX3_closes 62 = .ok (.istore 5, 2) := by decide +kernel
set_option maxRecDepth 20000 in
theorem dX3_closes_64 : decode cX3_closes 64 = .ok (.iload 5, 2) := by decide +kernel
set_option maxRecDepth 20000 in
theorem dX3_closes_66 : decode cX3_closes 66 = .ok (.aload_n 0, 1) := by decide +kernel
set_option maxRecDepth 20000 in
theorem dX3_closes_67 : decode cX3_closes 67 = .ok (.getfield 9, 3) := by decide +kernel
set_option maxRecDepth 20000 in
theorem dX3_closes_70 : decode cX3_closes 70 = .ok (.getfield 22, 3) := by decide +kernel
set_option maxRecDepth 20000 in
theorem dX3_closes_73 : decode cX3_closes 73 = .ok (.if_icmp .ge 56, 3) := by decide +kernel
set_option maxRecDepth 20000 in
theorem dX3_closes_76 : decode cX3_closes 76 = .ok (.iload 4, 2) := by decide +kernel
set_option maxRecDepth 20000 in
theorem dX3_closes_78 : decode cX3_closes 78 = .ok (.iload 5, 2) := by decide +kernel
set_option maxRecDepth 20000 in
theorem dX3_closes_80 : decode cX3_closes 80 = .ok (.ishr, 1) := by decide +kernel
set_option maxRecDepth 20000 in
theorem dX3_closes_81 : decode cX3_closes 81 = .ok (.iconst 1, 1) := by decide +kernel
set_option maxRecDepth 20000 in
theorem dX3_closes_82 : decode cX3_closes 82 = .ok (.iand, 1) := by decide +kernel
set_option maxRecDepth 20000 in
theorem dX3_closes_83 : decode cX3_closes 83 = .ok (.iconst 1, 1) := by decide +kernel
set_option maxRecDepth 20000 in
theorem dX3_closes_84 : decode cX3_closes 84 = .ok (.if_icmp .ne 39, 3) := by decide +kernel
set_option maxRecDepth 20000 in
theorem dX3_closes_87 : decode cX3_closes 87 = .ok (.iload_n 2, 1) := by decide +kernel
set_option maxRecDepth 20000 in
theorem dX3_closes_88 : decode cX3_closes 88 = .ok (.iload 5, 2) := by decide +kernel
set_option maxRecDepth 20000 in
theorem dX3_closes_90 : decode cX3_closes 90 = .ok (.ishr, 1) := by decide +kernel
set_option maxRecDepth 20000 in
theorem dX3_closes_91 : decode cX3_closes 91 = .ok (.iconst 1, 1) := by decide +kernel
set_option maxRecDepth 20000 in
theorem dX3_closes_92 : decode cX3_closes 92 = .ok (.iand, 1) := by decide +kernel
set_option maxRecDepth 20000 in
theorem dX3_closes_93 : decode cX3_closes 93 = .ok (.ifCond .ne 30, 3) := by decide +kernel
set_option maxRecDepth 20000 in
theorem dX3_closes_96 : decode cX3_closes 96 = .ok (.aload_n 0, 1) := by decide +kernel
set_option maxRecDepth 20000 in
theorem dX3_closes_97 : decode cX3_closes 97 = .ok (.getfield 15, 3) := by decide +kernel
set_option maxRecDepth 20000 in
theorem dX3_closes_100 : decode cX3_closes 100 = .ok (.iload_n 1, 1) := by decide +kernel
set_option maxRecDepth 20000 in
theorem dX3_closes_101 : decode cX3_closes 101 = .ok (.iload 5, 2) := by decide +kernel
set_option maxRecDepth 20000 in
theorem dX3_closes_103 : decode cX3_closes 103 = .ok (.iastore, 1) := by decide +kernel
set_option maxRecDepth 20000 in
theorem dX3_closes_104 : decode cX3_closes 104 = .ok (.aload_n 0, 1) := by decide +kernel
set_option maxRecDepth 20000 in
theorem dX3_closes_105 : decode cX3_closes 105 = .ok (.iload_n 1, 1) := by decide +kernel
set_option maxRecDepth 20000 in
theorem dX3_closes_106 : decode cX3_closes 106 = .ok (.iconst 1, 1) := by decide +kernel
set_option maxRecDepth 20000 in
theorem dX3_closes_107 : decode cX3_closes 107 = .ok (.iadd, 1) := by decide +kernel
set_option maxRecDepth 20000 in
theorem dX3_closes_108 : decode cX3_closes 108 = .ok (.iload_n 2, 1) := by decide +kernel
set_option maxRecDepth 20000 in
theorem dX3_closes_109 : decode cX3_closes 109 = .ok (.iconst 1, 1) := by decide +kernel
set_option maxRecDepth 20000 in
theorem dX3_closes_110 : decode cX3_closes 110 = .ok (.iload 5, 2) := by decide +kernel
set_option maxRecDepth 20000 in
theorem dX3_closes_112 : decode cX3_closes 112 = .ok (.ishl, 1) := by decide +kernel
set_option maxRecDepth 20000 in
theorem dX3_closes_113 : decode cX3_closes 113 = .ok (.ior, 1) := by decide +kernel
set_option maxRecDepth 20000 in
theorem dX3_closes_114 : decode cX3_closes 114 = .ok (.iload_n 3, 1) := by decide +kernel
set_option maxRecDepth 20000 in
theorem dX3_closes_115 : decode cX3_closes 115 = .ok (.invokestatic 49, 3) := by decide +kernel
set_option maxRecDepth 20000 in
theorem dX3_closes_118 : decode cX3_closes 118 = .ok (.ifCond .eq 5, 3) := by decide +kernel
set_option maxRecDepth 20000 in
theorem dX3_closes_121 : decode cX3_closes 121 = .ok (.iconst 1, 1) := by decide +kernel
set_option maxRecDepth 20000 in
theorem dX3_closes_122 : decode cX3_closes 122 = .ok (.ireturn, 1) := by decide +kernel
set_option maxRecDepth 20000 in
theorem dX3_closes_123 : decode cX3_closes 123 = .ok (.iinc 5 1, 3) := by decide +kernel
set_option maxRecDepth 20000 in
theorem dX3_closes_126 : decode cX3_closes 126 = .ok (.goto (-62), 3) := by decide +kernel
set_option maxRecDepth 20000 in
theorem dX3_closes_129 : decode cX3_closes 129 = .ok (.iconst 0, 1) := by decide +kernel
set_option maxRecDepth 20000 in
theorem dX3_closes_130 : decode cX3_closes 130 = .ok (.ireturn, 1) := by decide +kernel
def f_X3_closes_64 (N : Nat) (rc : Int32 → (Nat → Int32) → (Nat → Int32) → Int32 → Int32 → Int32 → Option (Int32 × (Nat → Int32))) (c_a0_board_askers : Int32) (c_a0_wants : Nat → Int32) : Nat → (Nat → Int32) → Int32 → Int32 → Int32 → Int32 → Int32 → Option (Int32 × (Nat → Int32))
  | 0, _, _, _, _, _, _ => none
  | n + 1, c_a0_members, v1, v2, v3, v4, v5 =>
    (if c_a0_board_askers ≤ v5 then
      some (0, c_a0_members)
    else
      (if ((v4 >>> (v5 &&& 31)) &&& (1 : Int32)) = 1 then
        (if ((v2 >>> (v5 &&& 31)) &&& (1 : Int32)) = 0 then
          (wrI 8 c_a0_members v1 v5).bind fun t4 =>
          (rc c_a0_board_askers c_a0_wants t4 (v1 + 1) (v2 ||| ((1 : Int32) <<< (v5 &&& 31))) v3).bind fun (r5, o6) =>
          (if r5 = 0 then
            f_X3_closes_64 N rc c_a0_board_askers c_a0_wants n o6 v1 v2 v3 v4 (v5 + 1)
          else
            some (1, o6))
        else
          f_X3_closes_64 N rc c_a0_board_askers c_a0_wants n c_a0_members v1 v2 v3 v4 (v5 + 1))
      else
        f_X3_closes_64 N rc c_a0_board_askers c_a0_wants n c_a0_members v1 v2 v3 v4 (v5 + 1)))
set_option maxHeartbeats 4000000 in
set_option maxRecDepth 100000 in
theorem g_X3_closes_64 {κ : KC} {ω : KW} {A : Nat → Prop} {ad : Nat → Nat} {u_a0_length : Int32} {u_a0_board_places : Int32} {u_a0_board_age : Int32} {N : Nat} {c_a0_board_askers : Int32} {c_a0_wants : Nat → Int32} {d : Nat}  {rc : Int32 → (Nat → Int32) → (Nat → Int32) → Int32 → Int32 → Int32 → Option (Int32 × (Nat → Int32))} {res : Int32 × (Nat → Int32)} (hrc : ∀ {c_a0_board_askers : Int32} {c_a0_members : Nat → Int32} {c_a0_wants : Nat → Int32} {u_a0_length : Int32} {u_a0_board_places : Int32} {u_a0_board_age : Int32} {a1 : Int32} {a2 : Int32} {a3 : Int32} {rr : Int32 × (Nat → Int32)}, rc c_a0_board_askers c_a0_wants c_a0_members a1 a2 a3 = some rr → Con (mu_X3_closes d) [.ref 0, .int a1, .int a2, .int a3] (w_X3_closes c_a0_board_askers c_a0_members c_a0_wants u_a0_length u_a0_board_places u_a0_board_age) (some (.int rr.1)) (w_X3_closes c_a0_board_askers rr.2 c_a0_wants u_a0_length u_a0_board_places u_a0_board_age)) : ∀ (n : Nat) {c_a0_members : Nat → Int32} {v1 : Int32} {v2 : Int32} {v3 : Int32} {v4 : Int32} {v5 : Int32}, f_X3_closes_64 N rc c_a0_board_askers c_a0_wants n c_a0_members v1 v2 v3 v4 v5 = some res → GG (mu_X3_closes (d + 1)) κ ω A (QR κ ω A ad (some (.int res.1)) (w_X3_closes c_a0_board_askers res.2 c_a0_wants u_a0_length u_a0_board_places u_a0_board_age)) ad 0 0 64 (w_X3_closes c_a0_board_askers c_a0_members c_a0_wants u_a0_length u_a0_board_places u_a0_board_age) [some (.ref 0), some (.int v1), some (.int v2), some (.int v3), some (.int v4), some (.int v5)] [] := by
  intro n
  induction n with
  | zero => intro c_a0_members v1 v2 v3 v4 v5 hf; exact ob_0 hf
  | succ n ih =>
    intro c_a0_members v1 v2 v3 v4 v5 hf
    refine G_iload dX3_closes_64 rfl ?_
    refine G_aload_n dX3_closes_66 rfl rfl ?_
    refine G_get (v := .ref 1) F_X3_9 dX3_closes_67 rfl rfl ?_
    refine G_get (v := .int c_a0_board_askers) F_X3_22 dX3_closes_70 rfl rfl ?_
    refine G_icmp_ge 129 dX3_closes_73 (by decide) (fun h1 => ?_) (fun h1 => ?_)
    · replace hf := ob_t h1 hf
      refine G_iconst 0 dX3_closes_129 (by decide) ?_
      obtain rfl := os hf
      exact G_zreturn dX3_closes_130 rfl z_0
    · replace hf := ob_f h1 hf
      refine G_iload dX3_closes_76 rfl ?_
      refine G_iload dX3_closes_78 rfl ?_
      refine G_ishr dX3_closes_80 ?_
      refine G_iconst 1 dX3_closes_81 (by decide) ?_
      refine G_iand dX3_closes_82 ?_
      refine G_iconst 1 dX3_closes_83 (by decide) ?_
      refine G_icmp_ne 123 dX3_closes_84 (by decide) (fun h2 => ?_) (fun h2 => ?_)
      · replace hf := ob_f h2 hf
        refine G_iinc 1 dX3_closes_123 (by decide) rfl (ltb rfl) ?_
        change GG _ _ _ _ _ _ _ _ _ _ [some (.ref 0), some (.int v1), some (.int v2), some (.int v3), some (.int v4), some (.int (v5 + 1))] _
        refine G_goto 64 dX3_closes_126 (by decide) ?_
        exact ih hf
      · replace hf := ob_t h2 hf
        refine G_iload_n dX3_closes_87 rfl rfl ?_
        refine G_iload dX3_closes_88 rfl ?_
        refine G_ishr dX3_closes_90 ?_
        refine G_iconst 1 dX3_closes_91 (by decide) ?_
        refine G_iand dX3_closes_92 ?_
        refine G_if_ne 123 dX3_closes_93 (by decide) (fun h3 => ?_) (fun h3 => ?_)
        · replace hf := ob_f h3 hf
          refine G_iinc 1 dX3_closes_123 (by decide) rfl (ltb rfl) ?_
          change GG _ _ _ _ _ _ _ _ _ _ [some (.ref 0), some (.int v1), some (.int v2), some (.int v3), some (.int v4), some (.int (v5 + 1))] _
          refine G_goto 64 dX3_closes_126 (by decide) ?_
          exact ih hf
        · replace hf := ob_t h3 hf
          refine G_aload_n dX3_closes_96 rfl rfl ?_
          refine G_get (v := .ref 2) F_X3_15 dX3_closes_97 rfl rfl ?_
          refine G_iload_n dX3_closes_100 rfl rfl ?_
          refine G_iload dX3_closes_101 rfl ?_
          obtain ⟨t4, ht4, hf⟩ := ob hf
          refine G_iast (w2 := (w_X3_closes c_a0_board_askers t4 c_a0_wants u_a0_length u_a0_board_places u_a0_board_age)) dX3_closes_103 rfl ht4 rfl ?_
          refine G_aload_n dX3_closes_104 rfl rfl ?_
          refine G_iload_n dX3_closes_105 rfl rfl ?_
          refine G_iconst 1 dX3_closes_106 (by decide) ?_
          refine G_iadd dX3_closes_107 ?_
          refine G_iload_n dX3_closes_108 rfl rfl ?_
          refine G_iconst 1 dX3_closes_109 (by decide) ?_
          refine G_iload dX3_closes_110 rfl ?_
          refine G_ishl dX3_closes_112 ?_
          refine G_ior dX3_closes_113 ?_
          refine G_iload_n dX3_closes_114 rfl rfl ?_
          obtain ⟨⟨r5, o6⟩, hc7, hf⟩ := ob hf
          refine G_callS (μ2 := (mu_X3_closes d)) (As := [.ref 0, .int (v1 + 1), .int (v2 ||| ((1 : Int32) <<< (v5 &&& 31))), .int v3]) (w2 := (w_X3_closes c_a0_board_askers o6 c_a0_wants u_a0_length u_a0_board_places u_a0_board_age)) (wc := (w_X3_closes c_a0_board_askers t4 c_a0_wants u_a0_length u_a0_board_places u_a0_board_age)) (wc2 := (w_X3_closes c_a0_board_askers o6 c_a0_wants u_a0_length u_a0_board_places u_a0_board_age)) (rest := []) (rv := [.int r5]) [0, 1, 2, 3] [1000, 1001, 1002, 1003] [] [0, 1, 2, 3] (hrc hc7) cw_X3_closes m_X3_49 rfl dX3_closes_115 rfl (by constructor <;> simp [mu_X3_closes] <;> omega) ⟨rfl, rfl⟩ (Fit.mk rfl rfl rfl) rfl (leb rfl) (ROsub.nil rfl rfl) rfl ?_
          change GG _ _ _ _ _ _ _ _ _ (w_X3_closes c_a0_board_askers o6 c_a0_wants u_a0_length u_a0_board_places u_a0_board_age) [some (.ref 0), some (.int v1), some (.int v2), some (.int v3), some (.int v4), some (.int v5)] [.int r5]
          refine G_if_eq 123 dX3_closes_118 (by decide) (fun h8 => ?_) (fun h8 => ?_)
          · replace hf := ob_t h8 hf
            refine G_iinc 1 dX3_closes_123 (by decide) rfl (ltb rfl) ?_
            change GG _ _ _ _ _ _ _ _ _ _ [some (.ref 0), some (.int v1), some (.int v2), some (.int v3), some (.int v4), some (.int (v5 + 1))] _
            refine G_goto 64 dX3_closes_126 (by decide) ?_
            exact ih hf
          · replace hf := ob_f h8 hf
            refine G_iconst 1 dX3_closes_121 (by decide) ?_
            obtain rfl := os hf
            exact G_zreturn dX3_closes_122 rfl z_1
def f_X3_closes (N : Nat) : Nat → Int32 → (Nat → Int32) → (Nat → Int32) → Int32 → Int32 → Int32 → Option (Int32 × (Nat → Int32))
  | 0, _, _, _, _, _, _ => none
  | d + 1, c_a0_board_askers, c_a0_wants, c_a0_members, a1, a2, a3 =>
    (if a1 < 1 then
    some (0, c_a0_members)
  else
    (if a1 ≤ 8 then
      (rdI 8 c_a0_members (a1 - 1)).bind fun t3 =>
      (rdI 8 c_a0_wants t3).bind fun t4 =>
      (if a1 < a3 then
        (rdI 8 c_a0_members 0).bind fun t6 =>
        f_X3_closes_64 N (f_X3_closes N d) c_a0_board_askers c_a0_wants N c_a0_members a1 a2 a3 t4 (t6 + 1)
      else
        (rdI 8 c_a0_members 0).bind fun t7 =>
        (if ((t4 >>> (t7 &&& 31)) &&& (1 : Int32)) = 1 then
          some (1, c_a0_members)
        else
          some (0, c_a0_members)))
    else
      some (0, c_a0_members)))
set_option maxHeartbeats 4000000 in
set_option maxRecDepth 100000 in
theorem c_X3_closes {N : Nat} : ∀ (d : Nat) {c_a0_board_askers : Int32} {c_a0_members : Nat → Int32} {c_a0_wants : Nat → Int32} {u_a0_length : Int32} {u_a0_board_places : Int32} {u_a0_board_age : Int32} {a1 : Int32} {a2 : Int32} {a3 : Int32} {res : Int32 × (Nat → Int32)}, f_X3_closes N d c_a0_board_askers c_a0_wants c_a0_members a1 a2 a3 = some res → Con (mu_X3_closes d) [.ref 0, .int a1, .int a2, .int a3] (w_X3_closes c_a0_board_askers c_a0_members c_a0_wants u_a0_length u_a0_board_places u_a0_board_age) (some (.int res.1)) (w_X3_closes c_a0_board_askers res.2 c_a0_wants u_a0_length u_a0_board_places u_a0_board_age) := by
  intro d
  induction d with
  | zero => intros; exact ob_0 (by assumption)
  | succ d hrc =>
    intro c_a0_board_askers c_a0_members c_a0_wants u_a0_length u_a0_board_places u_a0_board_age a1 a2 a3 res hf
    refine Con.mk (show plainName RX3 = true by decide +kernel) (leb rfl) (fun κ ω A ad => ?_)
    change GG (mu_X3_closes (d + 1)) κ ω A (QR κ ω A ad (some (.int res.1)) (w_X3_closes c_a0_board_askers res.2 c_a0_wants u_a0_length u_a0_board_places u_a0_board_age)) ad 0 0 0 (w_X3_closes c_a0_board_askers c_a0_members c_a0_wants u_a0_length u_a0_board_places u_a0_board_age) [some (.ref 0), some (.int a1), some (.int a2), some (.int a3), none, none] []
    refine G_iload_n dX3_closes_0 rfl rfl ?_
    refine G_iconst 1 dX3_closes_1 (by decide) ?_
    refine G_icmp_lt 11 dX3_closes_2 (by decide) (fun h1 => ?_) (fun h1 => ?_)
    · replace hf := ob_t h1 hf
      refine G_iconst 0 dX3_closes_11 (by decide) ?_
      obtain rfl := os hf
      exact G_zreturn dX3_closes_12 rfl z_0
    · replace hf := ob_f h1 hf
      refine G_iload_n dX3_closes_5 rfl rfl ?_
      refine G_bipush 8 dX3_closes_6 (by decide) ?_
      refine G_icmp_le 13 dX3_closes_8 (by decide) (fun h2 => ?_) (fun h2 => ?_)
      · replace hf := ob_t h2 hf
        refine G_aload_n dX3_closes_13 rfl rfl ?_
        refine G_get (v := .ref 3) F_X3_19 dX3_closes_14 rfl rfl ?_
        refine G_aload_n dX3_closes_17 rfl rfl ?_
        refine G_get (v := .ref 2) F_X3_15 dX3_closes_18 rfl rfl ?_
        refine G_iload_n dX3_closes_21 rfl rfl ?_
        refine G_iconst 1 dX3_closes_22 (by decide) ?_
        refine G_isub dX3_closes_23 ?_
        obtain ⟨t3, ht3, hf⟩ := ob hf
        refine G_iald dX3_closes_24 rfl ht3 ?_
        obtain ⟨t4, ht4, hf⟩ := ob hf
        refine G_iald dX3_closes_25 rfl ht4 ?_
        refine G_istore dX3_closes_26 (ltb rfl) ?_
        change GG _ _ _ _ _ _ _ _ _ _ [some (.ref 0), some (.int a1), some (.int a2), some (.int a3), some (.int t4), none] _
        refine G_iload_n dX3_closes_28 rfl rfl ?_
        refine G_iload_n dX3_closes_29 rfl rfl ?_
        refine G_icmp_lt 54 dX3_closes_30 (by decide) (fun h5 => ?_) (fun h5 => ?_)
        · replace hf := ob_t h5 hf
          refine G_aload_n dX3_closes_54 rfl rfl ?_
          refine G_get (v := .ref 2) F_X3_15 dX3_closes_55 rfl rfl ?_
          refine G_iconst 0 dX3_closes_58 (by decide) ?_
          obtain ⟨t6, ht6, hf⟩ := ob hf
          refine G_iald dX3_closes_59 rfl ht6 ?_
          refine G_iconst 1 dX3_closes_60 (by decide) ?_
          refine G_iadd dX3_closes_61 ?_
          refine G_istore dX3_closes_62 (ltb rfl) ?_
          change GG _ _ _ _ _ _ _ _ _ _ [some (.ref 0), some (.int a1), some (.int a2), some (.int a3), some (.int t4), some (.int (t6 + 1))] _
          exact g_X3_closes_64 hrc N hf
        · replace hf := ob_f h5 hf
          refine G_iload dX3_closes_33 rfl ?_
          refine G_aload_n dX3_closes_35 rfl rfl ?_
          refine G_get (v := .ref 2) F_X3_15 dX3_closes_36 rfl rfl ?_
          refine G_iconst 0 dX3_closes_39 (by decide) ?_
          obtain ⟨t7, ht7, hf⟩ := ob hf
          refine G_iald dX3_closes_40 rfl ht7 ?_
          refine G_ishr dX3_closes_41 ?_
          refine G_iconst 1 dX3_closes_42 (by decide) ?_
          refine G_iand dX3_closes_43 ?_
          refine G_iconst 1 dX3_closes_44 (by decide) ?_
          refine G_icmp_ne 52 dX3_closes_45 (by decide) (fun h8 => ?_) (fun h8 => ?_)
          · replace hf := ob_f h8 hf
            refine G_iconst 0 dX3_closes_52 (by decide) ?_
            obtain rfl := os hf
            exact G_zreturn dX3_closes_53 rfl z_0
          · replace hf := ob_t h8 hf
            refine G_iconst 1 dX3_closes_48 (by decide) ?_
            refine G_goto 53 dX3_closes_49 (by decide) ?_
            obtain rfl := os hf
            exact G_zreturn dX3_closes_53 rfl z_1
      · replace hf := ob_f h2 hf
        refine G_iconst 0 dX3_closes_11 (by decide) ?_
        obtain rfl := os hf
        exact G_zreturn dX3_closes_12 rfl z_0
set_option maxRecDepth 20000 in
theorem dX3_hasRing_0 : decode cX3_hasRing 0 = .ok (.iconst 0, 1) := by decide +kernel
set_option maxRecDepth 20000 in
theorem dX3_hasRing_1 : decode cX3_hasRing 1 = .ok (.istore_n 2, 1) := by decide +kernel
set_option maxRecDepth 20000 in
theorem dX3_hasRing_2 : decode cX3_hasRing 2 = .ok (.iload_n 2, 1) := by decide +kernel
set_option maxRecDepth 20000 in
theorem dX3_hasRing_3 : decode cX3_hasRing 3 = .ok (.aload_n 0, 1) := by decide +kernel
set_option maxRecDepth 20000 in
theorem dX3_hasRing_4 : decode cX3_hasRing 4 = .ok (.getfield 9, 3) := by decide +kernel
set_option maxRecDepth 20000 in
theorem dX3_hasRing_7 : decode cX3_hasRing 7 = .ok (.getfield 22, 3) := by decide +kernel
set_option maxRecDepth 20000 in
theorem dX3_hasRing_10 : decode cX3_hasRing 10 = .ok (.if_icmp .ge 30, 3) := by decide +kernel
set_option maxRecDepth 20000 in
theorem dX3_hasRing_13 : decode cX3_hasRing 13 = .ok (.aload_n 0, 1) := by decide +kernel
set_option maxRecDepth 20000 in
theorem dX3_hasRing_14 : decode cX3_hasRing 14 = .ok (.getfield 15, 3) := by decide +kernel
set_option maxRecDepth 20000 in
theorem dX3_hasRing_17 : decode cX3_hasRing 17 = .ok (.iconst 0, 1) := by decide +kernel
set_option maxRecDepth 20000 in
theorem dX3_hasRing_18 : decode cX3_hasRing 18 = .ok (.iload_n 2, 1) := by decide +kernel
set_option maxRecDepth 20000 in
theorem dX3_hasRing_19 : decode cX3_hasRing 19 = .ok (.iastore, 1) := by decide +kernel
set_option maxRecDepth 20000 in
theorem dX3_hasRing_20 : decode cX3_hasRing 20 = .ok (.aload_n 0, 1) := by decide +kernel
set_option maxRecDepth 20000 in
theorem dX3_hasRing_21 : decode cX3_hasRing 21 = .ok (.iconst 1, 1) := by decide +kernel
set_option maxRecDepth 20000 in
theorem dX3_hasRing_22 : decode cX3_hasRing 22 = .ok (.iconst 1, 1) := by decide +kernel
set_option maxRecDepth 20000 in
theorem dX3_hasRing_23 : decode cX3_hasRing 23 = .ok (.iload_n 2, 1) := by decide +kernel
set_option maxRecDepth 20000 in
theorem dX3_hasRing_24 : decode cX3_hasRing 24 = .ok (.ishl, 1) := by decide +kernel
set_option maxRecDepth 20000 in
theorem dX3_hasRing_25 : decode cX3_hasRing 25 = .ok (.iload_n 1, 1) := by decide +kernel
set_option maxRecDepth 20000 in
theorem dX3_hasRing_26 : decode cX3_hasRing 26 = .ok (.invokestatic 49, 3) := by decide +kernel
set_option maxRecDepth 20000 in
theorem dX3_hasRing_29 : decode cX3_hasRing 29 = .ok (.ifCond .eq 5, 3) := by decide +kernel
set_option maxRecDepth 20000 in
theorem dX3_hasRing_32 : decode cX3_hasRing 32 = .ok (.iconst 1, 1) := by decide +kernel
set_option maxRecDepth 20000 in
theorem dX3_hasRing_33 : decode cX3_hasRing 33 = .ok (.ireturn, 1) := by decide +kernel
set_option maxRecDepth 20000 in
theorem dX3_hasRing_34 : decode cX3_hasRing 34 = .ok (.iinc 2 1, 3) := by decide +kernel
set_option maxRecDepth 20000 in
theorem dX3_hasRing_37 : decode cX3_hasRing 37 = .ok (.goto (-35), 3) := by decide +kernel
set_option maxRecDepth 20000 in
theorem dX3_hasRing_40 : decode cX3_hasRing 40 = .ok (.iconst 0, 1) := by decide +kernel
set_option maxRecDepth 20000 in
theorem dX3_hasRing_41 : decode cX3_hasRing 41 = .ok (.ireturn, 1) := by decide +kernel
def f_X3_hasRing_2 (N : Nat) (c_board_askers : Int32) (c_wants : Nat → Int32) : Nat → (Nat → Int32) → Int32 → Int32 → Option (Int32 × (Nat → Int32))
  | 0, _, _, _ => none
  | n + 1, c_members, v1, v2 =>
    (if c_board_askers ≤ v2 then
      some (0, c_members)
    else
      (wrI 8 c_members 0 v2).bind fun t2 =>
      (f_X3_closes N 9 c_board_askers c_wants t2 1 ((1 : Int32) <<< (v2 &&& 31)) v1).bind fun (r3, o4) =>
      (if r3 = 0 then
        f_X3_hasRing_2 N c_board_askers c_wants n o4 v1 (v2 + 1)
      else
        some (1, o4)))
set_option maxHeartbeats 4000000 in
set_option maxRecDepth 100000 in
theorem g_X3_hasRing_2 {κ : KC} {ω : KW} {A : Nat → Prop} {ad : Nat → Nat} {u_length : Int32} {u_board_places : Int32} {u_board_age : Int32} {N : Nat} {c_board_askers : Int32} {c_wants : Nat → Int32}  {res : Int32 × (Nat → Int32)} : ∀ (n : Nat) {c_members : Nat → Int32} {v1 : Int32} {v2 : Int32}, f_X3_hasRing_2 N c_board_askers c_wants n c_members v1 v2 = some res → GG mu_X3_hasRing κ ω A (QR κ ω A ad (some (.int res.1)) (w_X3_hasRing c_board_askers res.2 c_wants u_length u_board_places u_board_age)) ad 0 0 2 (w_X3_hasRing c_board_askers c_members c_wants u_length u_board_places u_board_age) [some (.ref 0), some (.int v1), some (.int v2)] [] := by
  intro n
  induction n with
  | zero => intro c_members v1 v2 hf; exact ob_0 hf
  | succ n ih =>
    intro c_members v1 v2 hf
    refine G_iload_n dX3_hasRing_2 rfl rfl ?_
    refine G_aload_n dX3_hasRing_3 rfl rfl ?_
    refine G_get (v := .ref 1) F_X3_9 dX3_hasRing_4 rfl rfl ?_
    refine G_get (v := .int c_board_askers) F_X3_22 dX3_hasRing_7 rfl rfl ?_
    refine G_icmp_ge 40 dX3_hasRing_10 (by decide) (fun h1 => ?_) (fun h1 => ?_)
    · replace hf := ob_t h1 hf
      refine G_iconst 0 dX3_hasRing_40 (by decide) ?_
      obtain rfl := os hf
      exact G_zreturn dX3_hasRing_41 rfl z_0
    · replace hf := ob_f h1 hf
      refine G_aload_n dX3_hasRing_13 rfl rfl ?_
      refine G_get (v := .ref 2) F_X3_15 dX3_hasRing_14 rfl rfl ?_
      refine G_iconst 0 dX3_hasRing_17 (by decide) ?_
      refine G_iload_n dX3_hasRing_18 rfl rfl ?_
      obtain ⟨t2, ht2, hf⟩ := ob hf
      refine G_iast (w2 := (w_X3_hasRing c_board_askers t2 c_wants u_length u_board_places u_board_age)) dX3_hasRing_19 rfl ht2 rfl ?_
      refine G_aload_n dX3_hasRing_20 rfl rfl ?_
      refine G_iconst 1 dX3_hasRing_21 (by decide) ?_
      refine G_iconst 1 dX3_hasRing_22 (by decide) ?_
      refine G_iload_n dX3_hasRing_23 rfl rfl ?_
      refine G_ishl dX3_hasRing_24 ?_
      refine G_iload_n dX3_hasRing_25 rfl rfl ?_
      obtain ⟨⟨r3, o4⟩, hc5, hf⟩ := ob hf
      refine G_callS (μ2 := (mu_X3_closes 9)) (As := [.ref 0, .int 1, .int ((1 : Int32) <<< (v2 &&& 31)), .int v1]) (w2 := (w_X3_hasRing c_board_askers o4 c_wants u_length u_board_places u_board_age)) (wc := (w_X3_closes c_board_askers t2 c_wants u_length u_board_places u_board_age)) (wc2 := (w_X3_closes c_board_askers o4 c_wants u_length u_board_places u_board_age)) (rest := []) (rv := [.int r3]) [0, 1, 2, 3] [1000, 1001, 1002, 1003] [] [0, 1, 2, 3] (c_X3_closes 9 hc5) cw_X3_closes m_X3_49 rfl dX3_hasRing_26 rfl ⟨leb rfl, leb rfl⟩ ⟨rfl, rfl⟩ (Fit.mk rfl rfl rfl) rfl (leb rfl) (ROsub.nil rfl rfl) rfl ?_
      change GG _ _ _ _ _ _ _ _ _ (w_X3_hasRing c_board_askers o4 c_wants u_length u_board_places u_board_age) [some (.ref 0), some (.int v1), some (.int v2)] [.int r3]
      refine G_if_eq 34 dX3_hasRing_29 (by decide) (fun h6 => ?_) (fun h6 => ?_)
      · replace hf := ob_t h6 hf
        refine G_iinc 1 dX3_hasRing_34 (by decide) rfl (ltb rfl) ?_
        change GG _ _ _ _ _ _ _ _ _ _ [some (.ref 0), some (.int v1), some (.int (v2 + 1))] _
        refine G_goto 2 dX3_hasRing_37 (by decide) ?_
        exact ih hf
      · replace hf := ob_f h6 hf
        refine G_iconst 1 dX3_hasRing_32 (by decide) ?_
        obtain rfl := os hf
        exact G_zreturn dX3_hasRing_33 rfl z_1
def f_X3_hasRing (N : Nat) (c_board_askers : Int32) (c_wants : Nat → Int32) (c_members : Nat → Int32) (a1 : Int32) : Option (Int32 × (Nat → Int32)) :=
  f_X3_hasRing_2 N c_board_askers c_wants N c_members a1 0
set_option maxHeartbeats 4000000 in
set_option maxRecDepth 100000 in
theorem c_X3_hasRing {N : Nat} {c_board_askers : Int32} {c_wants : Nat → Int32} {c_members : Nat → Int32} {u_length : Int32} {u_board_places : Int32} {u_board_age : Int32} {a1 : Int32} {res : Int32 × (Nat → Int32)} (hf : f_X3_hasRing N c_board_askers c_wants c_members a1 = some res) : Con mu_X3_hasRing [.ref 0, .int a1] (w_X3_hasRing c_board_askers c_members c_wants u_length u_board_places u_board_age) (some (.int res.1)) (w_X3_hasRing c_board_askers res.2 c_wants u_length u_board_places u_board_age) := by
  refine Con.mk (show plainName RX3 = true by decide +kernel) (leb rfl) (fun κ ω A ad => ?_)
  change GG mu_X3_hasRing κ ω A (QR κ ω A ad (some (.int res.1)) (w_X3_hasRing c_board_askers res.2 c_wants u_length u_board_places u_board_age)) ad 0 0 0 (w_X3_hasRing c_board_askers c_members c_wants u_length u_board_places u_board_age) [some (.ref 0), some (.int a1), none] []
  refine G_iconst 0 dX3_hasRing_0 (by decide) ?_
  refine G_istore_n dX3_hasRing_1 rfl (ltb rfl) ?_
  change GG _ _ _ _ _ _ _ _ _ _ [some (.ref 0), some (.int a1), some (.int 0)] _
  exact g_X3_hasRing_2 N hf
set_option maxRecDepth 20000 in
theorem dX3_find_0 : decode cX3_find 0 = .ok (.iconst 0, 1) := by decide +kernel
set_option maxRecDepth 20000 in
theorem dX3_find_1 : decode cX3_find 1 = .ok (.istore_n 3, 1) := by decide +kernel
set_option maxRecDepth 20000 in
theorem dX3_find_2 : decode cX3_find 2 = .ok (.iload_n 3, 1) := by decide +kernel
set_option maxRecDepth 20000 in
theorem dX3_find_3 : decode cX3_find 3 = .ok (.aload_n 0, 1) := by decide +kernel
set_option maxRecDepth 20000 in
theorem dX3_find_4 : decode cX3_find 4 = .ok (.getfield 9, 3) := by decide +kernel
set_option maxRecDepth 20000 in
theorem dX3_find_7 : decode cX3_find 7 = .ok (.getfield 22, 3) := by decide +kernel
set_option maxRecDepth 20000 in
theorem dX3_find_10 : decode cX3_find 10 = .ok (.if_icmp .ge 22, 3) := by decide +kernel
set_option maxRecDepth 20000 in
theorem dX3_find_13 : decode cX3_find 13 = .ok (.aload_n 0, 1) := by decide +kernel
set_option maxRecDepth 20000 in
theorem dX3_find_14 : decode cX3_find 14 = .ok (.getfield 19, 3) := by decide +kernel
set_option maxRecDepth 20000 in
theorem dX3_find_17 : decode cX3_find 17 = .ok (.iload_n 3, 1) := by decide +kernel
set_option maxRecDepth 20000 in
theorem dX3_find_18 : decode cX3_find 18 = .ok (.aload_n 0, 1) := by decide +kernel
set_option maxRecDepth 20000 in
theorem dX3_find_19 : decode cX3_find 19 = .ok (.iload_n 1, 1) := by decide +kernel
set_option maxRecDepth 20000 in
theorem dX3_find_20 : decode cX3_find 20 = .ok (.iload_n 2, 1) := by decide +kernel
set_option maxRecDepth 20000 in
theorem dX3_find_21 : decode cX3_find 21 = .ok (.iload_n 3, 1) := by decide +kernel
set_option maxRecDepth 20000 in
theorem dX3_find_22 : decode cX3_find 22 = .ok (.invokevirtual 28, 3) := by decide +kernel
set_option maxRecDepth 20000 in
theorem dX3_find_25 : decode cX3_find 25 = .ok (.iastore, 1) := by decide +kernel
set_option maxRecDepth 20000 in
theorem dX3_find_26 : decode cX3_find 26 = .ok (.iinc 3 1, 3) := by decide +kernel
set_option maxRecDepth 20000 in
theorem dX3_find_29 : decode cX3_find 29 = .ok (.goto (-27), 3) := by decide +kernel
set_option maxRecDepth 20000 in
theorem dX3_find_32 : decode cX3_find 32 = .ok (.aload_n 0, 1) := by decide +kernel
set_option maxRecDepth 20000 in
theorem dX3_find_33 : decode cX3_find 33 = .ok (.iconst 0, 1) := by decide +kernel
set_option maxRecDepth 20000 in
theorem dX3_find_34 : decode cX3_find 34 = .ok (.putfield 32, 3) := by decide +kernel
set_option maxRecDepth 20000 in
theorem dX3_find_37 : decode cX3_find 37 = .ok (.iconst 1, 1) := by decide +kernel
set_option maxRecDepth 20000 in
theorem dX3_find_38 : decode cX3_find 38 = .ok (.istore_n 3, 1) := by decide +kernel
set_option maxRecDepth 20000 in
theorem dX3_find_39 : decode cX3_find 39 = .ok (.iload_n 3, 1) := by decide +kernel
set_option maxRecDepth 20000 in
theorem dX3_find_40 : decode cX3_find 40 = .ok (.aload_n 0, 1) := by decide +kernel
set_option maxRecDepth 20000 in
theorem dX3_find_41 : decode cX3_find 41 = .ok (.getfield 9, 3) := by decide +kernel
set_option maxRecDepth 20000 in
theorem dX3_find_44 : decode cX3_find 44 = .ok (.getfield 22, 3) := by decide +kernel
set_option maxRecDepth 20000 in
theorem dX3_find_47 : decode cX3_find 47 = .ok (.if_icmp .gt 29, 3) := by decide +kernel
set_option maxRecDepth 20000 in
theorem dX3_find_50 : decode cX3_find 50 = .ok (.aload_n 0, 1) := by decide +kernel
set_option maxRecDepth 20000 in
theorem dX3_find_51 : decode cX3_find 51 = .ok (.getfield 32, 3) := by decide +kernel
set_option maxRecDepth 20000 in
theorem dX3_find_54 : decode cX3_find 54 = .ok (.ifCond .ne 22, 3) := by decide +kernel
set_option maxRecDepth 20000 in
theorem dX3_find_57 : decode cX3_find 57 = .ok (.aload_n 0, 1) := by decide +kernel
set_option maxRecDepth 20000 in
theorem dX3_find_58 : decode cX3_find 58 = .ok (.iload_n 3, 1) := by decide +kernel
set_option maxRecDepth 20000 in
theorem dX3_find_59 : decode cX3_find 59 = .ok (.invokevirtual 35, 3) := by decide +kernel
set_option maxRecDepth 20000 in
theorem dX3_find_62 : decode cX3_find 62 = .ok (.ifCond .eq 8, 3) := by decide +kernel
set_option maxRecDepth 20000 in
theorem dX3_find_65 : decode cX3_find 65 = .ok (.aload_n 0, 1) := by decide +kernel
set_option maxRecDepth 20000 in
theorem dX3_find_66 : decode cX3_find 66 = .ok (.iload_n 3, 1) := by decide +kernel
set_option maxRecDepth 20000 in
theorem dX3_find_67 : decode cX3_find 67 = .ok (.putfield 32, 3) := by decide +kernel
set_option maxRecDepth 20000 in
theorem dX3_find_70 : decode cX3_find 70 = .ok (.iinc 3 1, 3) := by decide +kernel
set_option maxRecDepth 20000 in
theorem dX3_find_73 : decode cX3_find 73 = .ok (.goto (-34), 3) := by decide +kernel
set_option maxRecDepth 20000 in
theorem dX3_find_76 : decode cX3_find 76 = .ok (.return_, 1) := by decide +kernel
def f_X3_find_39 (N : Nat) (c_board_askers : Int32) (c_board_told : Nat → Int32) (c_board_wishes : Nat → Int32) : Nat → Int32 → (Nat → Int32) → (Nat → Int32) → Int32 → Option (Int32 × (Nat → Int32) × (Nat → Int32))
  | 0, _, _, _, _ => none
  | n + 1, c_length, c_members, c_wants, v3 =>
    (if c_board_askers < v3 then
      some (c_length, c_members, c_wants)
    else
      (if c_length = 0 then
        (f_X3_hasRing N c_board_askers c_wants c_members v3).bind fun (r3, o4) =>
        (if r3 = 0 then
          f_X3_find_39 N c_board_askers c_board_told c_board_wishes n c_length o4 c_wants (v3 + 1)
        else
          f_X3_find_39 N c_board_askers c_board_told c_board_wishes n v3 o4 c_wants (v3 + 1))
      else
        some (c_length, c_members, c_wants)))
set_option maxHeartbeats 4000000 in
set_option maxRecDepth 100000 in
theorem g_X3_find_39 {κ : KC} {ω : KW} {A : Nat → Prop} {ad : Nat → Nat} {u_board_places : Int32} {u_board_age : Int32} {N : Nat} {c_board_askers : Int32} {c_board_told : Nat → Int32} {c_board_wishes : Nat → Int32}  {res : Int32 × (Nat → Int32) × (Nat → Int32)} : ∀ (n : Nat) {c_length : Int32} {c_members : Nat → Int32} {c_wants : Nat → Int32} {v3 : Int32}, f_X3_find_39 N c_board_askers c_board_told c_board_wishes n c_length c_members c_wants v3 = some res → GG mu_X3_find κ ω A (QR κ ω A ad (none) (w_X3_find res.1 c_board_askers res.2.1 res.2.2 c_board_told c_board_wishes u_board_places u_board_age)) ad 0 0 39 (w_X3_find c_length c_board_askers c_members c_wants c_board_told c_board_wishes u_board_places u_board_age) [some (.ref 0), none, none, some (.int v3)] [] := by
  intro n
  induction n with
  | zero => intro c_length c_members c_wants v3 hf; exact ob_0 hf
  | succ n ih =>
    intro c_length c_members c_wants v3 hf
    refine G_iload_n dX3_find_39 rfl rfl ?_
    refine G_aload_n dX3_find_40 rfl rfl ?_
    refine G_get (v := .ref 1) F_X3_9 dX3_find_41 rfl rfl ?_
    refine G_get (v := .int c_board_askers) F_X3_22 dX3_find_44 rfl rfl ?_
    refine G_icmp_gt 76 dX3_find_47 (by decide) (fun h1 => ?_) (fun h1 => ?_)
    · replace hf := ob_t h1 hf
      obtain rfl := os hf
      exact G_return dX3_find_76 rfl
    · replace hf := ob_f h1 hf
      refine G_aload_n dX3_find_50 rfl rfl ?_
      refine G_get (v := .int c_length) F_X3_32 dX3_find_51 rfl rfl ?_
      refine G_if_ne 76 dX3_find_54 (by decide) (fun h2 => ?_) (fun h2 => ?_)
      · replace hf := ob_f h2 hf
        obtain rfl := os hf
        exact G_return dX3_find_76 rfl
      · replace hf := ob_t h2 hf
        refine G_aload_n dX3_find_57 rfl rfl ?_
        refine G_iload_n dX3_find_58 rfl rfl ?_
        obtain ⟨⟨r3, o4⟩, hc5, hf⟩ := ob hf
        refine G_callV (μ2 := mu_X3_hasRing) (As := [.int v3]) (w2 := (w_X3_find c_length c_board_askers o4 c_wants c_board_told c_board_wishes u_board_places u_board_age)) (wc := (w_X3_hasRing c_board_askers c_members c_wants c_length u_board_places u_board_age)) (wc2 := (w_X3_hasRing c_board_askers o4 c_wants c_length u_board_places u_board_age)) (rest := []) (rv := [.int r3]) [0, 1, 2, 3] [1000, 5, 1001, 4] [4, 5] [2, 3, 4, 5, 0, 1] (c_X3_hasRing hc5) cw_X3_hasRing m_X3_35 dX3_find_59 rfl ⟨leb rfl, leb rfl⟩ ⟨rfl, rfl⟩ rfl ⟨_, rfl, rfl⟩ (Fit.mk rfl rfl rfl) rfl (leb rfl) (ROsub.nil rfl rfl) rfl ?_
        change GG _ _ _ _ _ _ _ _ _ (w_X3_find c_length c_board_askers o4 c_wants c_board_told c_board_wishes u_board_places u_board_age) [some (.ref 0), none, none, some (.int v3)] [.int r3]
        refine G_if_eq 70 dX3_find_62 (by decide) (fun h6 => ?_) (fun h6 => ?_)
        · replace hf := ob_t h6 hf
          refine G_iinc 1 dX3_find_70 (by decide) rfl (ltb rfl) ?_
          change GG _ _ _ _ _ _ _ _ _ _ [some (.ref 0), none, none, some (.int (v3 + 1))] _
          refine G_goto 39 dX3_find_73 (by decide) ?_
          exact ih hf
        · replace hf := ob_f h6 hf
          refine G_aload_n dX3_find_65 rfl rfl ?_
          refine G_iload_n dX3_find_66 rfl rfl ?_
          refine G_put (w2 := (w_X3_find v3 c_board_askers o4 c_wants c_board_told c_board_wishes u_board_places u_board_age)) F_X3_32 dX3_find_67 rfl rfl rfl (ltb rfl) rfl ?_
          refine G_iinc 1 dX3_find_70 (by decide) rfl (ltb rfl) ?_
          change GG _ _ _ _ _ _ _ _ _ _ [some (.ref 0), none, none, some (.int (v3 + 1))] _
          refine G_goto 39 dX3_find_73 (by decide) ?_
          exact ih hf
def f_X3_find_2 (N : Nat) (c_board_askers : Int32) (c_board_told : Nat → Int32) (c_board_wishes : Nat → Int32) : Nat → Int32 → (Nat → Int32) → (Nat → Int32) → Int32 → Int32 → Int32 → Option (Int32 × (Nat → Int32) × (Nat → Int32))
  | 0, _, _, _, _, _, _ => none
  | n + 1, c_length, c_members, c_wants, v1, v2, v3 =>
    (if c_board_askers ≤ v3 then
      f_X3_find_39 N c_board_askers c_board_told c_board_wishes N 0 c_members c_wants 1
    else
      (f_X3_wantsOf N c_board_askers c_board_told c_board_wishes v1 v2 v3).bind fun r2 =>
      (wrI 8 c_wants v3 r2).bind fun t4 =>
      f_X3_find_2 N c_board_askers c_board_told c_board_wishes n c_length c_members t4 v1 v2 (v3 + 1))
set_option maxHeartbeats 4000000 in
set_option maxRecDepth 100000 in
theorem g_X3_find_2 {κ : KC} {ω : KW} {A : Nat → Prop} {ad : Nat → Nat} {u_board_places : Int32} {u_board_age : Int32} {N : Nat} {c_board_askers : Int32} {c_board_told : Nat → Int32} {c_board_wishes : Nat → Int32}  {res : Int32 × (Nat → Int32) × (Nat → Int32)} : ∀ (n : Nat) {c_length : Int32} {c_members : Nat → Int32} {c_wants : Nat → Int32} {v1 : Int32} {v2 : Int32} {v3 : Int32}, f_X3_find_2 N c_board_askers c_board_told c_board_wishes n c_length c_members c_wants v1 v2 v3 = some res → GG mu_X3_find κ ω A (QR κ ω A ad (none) (w_X3_find res.1 c_board_askers res.2.1 res.2.2 c_board_told c_board_wishes u_board_places u_board_age)) ad 0 0 2 (w_X3_find c_length c_board_askers c_members c_wants c_board_told c_board_wishes u_board_places u_board_age) [some (.ref 0), some (.int v1), some (.int v2), some (.int v3)] [] := by
  intro n
  induction n with
  | zero => intro c_length c_members c_wants v1 v2 v3 hf; exact ob_0 hf
  | succ n ih =>
    intro c_length c_members c_wants v1 v2 v3 hf
    refine G_iload_n dX3_find_2 rfl rfl ?_
    refine G_aload_n dX3_find_3 rfl rfl ?_
    refine G_get (v := .ref 1) F_X3_9 dX3_find_4 rfl rfl ?_
    refine G_get (v := .int c_board_askers) F_X3_22 dX3_find_7 rfl rfl ?_
    refine G_icmp_ge 32 dX3_find_10 (by decide) (fun h1 => ?_) (fun h1 => ?_)
    · replace hf := ob_t h1 hf
      refine G_aload_n dX3_find_32 rfl rfl ?_
      refine G_iconst 0 dX3_find_33 (by decide) ?_
      refine G_put (w2 := (w_X3_find 0 c_board_askers c_members c_wants c_board_told c_board_wishes u_board_places u_board_age)) F_X3_32 dX3_find_34 rfl rfl rfl (ltb rfl) rfl ?_
      refine G_iconst 1 dX3_find_37 (by decide) ?_
      refine G_istore_n dX3_find_38 rfl (ltb rfl) ?_
      change GG _ _ _ _ _ _ _ _ _ _ [some (.ref 0), some (.int v1), some (.int v2), some (.int 1)] _
      refine GG.sb (lv2 := [some (.ref 0), none, none, some (.int 1)]) ?_ (lvS_v rfl (lvS_n (lvS_n (lvS_v rfl (lvS_e)))))
      exact g_X3_find_39 N hf
    · replace hf := ob_f h1 hf
      refine G_aload_n dX3_find_13 rfl rfl ?_
      refine G_get (v := .ref 3) F_X3_19 dX3_find_14 rfl rfl ?_
      refine G_iload_n dX3_find_17 rfl rfl ?_
      refine G_aload_n dX3_find_18 rfl rfl ?_
      refine G_iload_n dX3_find_19 rfl rfl ?_
      refine G_iload_n dX3_find_20 rfl rfl ?_
      refine G_iload_n dX3_find_21 rfl rfl ?_
      obtain ⟨r2, hc3, hf⟩ := ob hf
      refine G_callV (μ2 := mu_X3_wantsOf) (As := [.int v1, .int v2, .int v3]) (w2 := (w_X3_find c_length c_board_askers c_members c_wants c_board_told c_board_wishes u_board_places u_board_age)) (wc := (w_X3_wantsOf c_board_askers c_board_told c_board_wishes c_length u_board_places u_board_age)) (wc2 := (w_X3_wantsOf c_board_askers c_board_told c_board_wishes c_length u_board_places u_board_age)) (rest := [.int v3, .ref 3]) (rv := [.int r2]) [0, 1, 4, 5] [2, 3, 1000, 1001] [2, 3] [2, 3, 0, 1, 4, 5] (c_X3_wantsOf hc3) cw_X3_wantsOf m_X3_28 dX3_find_22 rfl ⟨leb rfl, leb rfl⟩ ⟨rfl, rfl⟩ rfl ⟨_, rfl, rfl⟩ (Fit.mk rfl rfl rfl) rfl (leb rfl) (ROsub.nil rfl rfl) rfl ?_
      change GG _ _ _ _ _ _ _ _ _ (w_X3_find c_length c_board_askers c_members c_wants c_board_told c_board_wishes u_board_places u_board_age) [some (.ref 0), some (.int v1), some (.int v2), some (.int v3)] [.int r2, .int v3, .ref 3]
      obtain ⟨t4, ht4, hf⟩ := ob hf
      refine G_iast (w2 := (w_X3_find c_length c_board_askers c_members t4 c_board_told c_board_wishes u_board_places u_board_age)) dX3_find_25 rfl ht4 rfl ?_
      refine G_iinc 1 dX3_find_26 (by decide) rfl (ltb rfl) ?_
      change GG _ _ _ _ _ _ _ _ _ _ [some (.ref 0), some (.int v1), some (.int v2), some (.int (v3 + 1))] _
      refine G_goto 2 dX3_find_29 (by decide) ?_
      exact ih hf
def f_X3_find (N : Nat) (c_board_askers : Int32) (c_board_told : Nat → Int32) (c_board_wishes : Nat → Int32) (c_length : Int32) (c_members : Nat → Int32) (c_wants : Nat → Int32) (a1 : Int32) (a2 : Int32) : Option (Int32 × (Nat → Int32) × (Nat → Int32)) :=
  f_X3_find_2 N c_board_askers c_board_told c_board_wishes N c_length c_members c_wants a1 a2 0
set_option maxHeartbeats 4000000 in
set_option maxRecDepth 100000 in
theorem c_X3_find {N : Nat} {c_board_askers : Int32} {c_board_told : Nat → Int32} {c_board_wishes : Nat → Int32} {c_length : Int32} {c_members : Nat → Int32} {c_wants : Nat → Int32} {u_board_places : Int32} {u_board_age : Int32} {a1 : Int32} {a2 : Int32} {res : Int32 × (Nat → Int32) × (Nat → Int32)} (hf : f_X3_find N c_board_askers c_board_told c_board_wishes c_length c_members c_wants a1 a2 = some res) : Con mu_X3_find [.ref 0, .int a1, .int a2] (w_X3_find c_length c_board_askers c_members c_wants c_board_told c_board_wishes u_board_places u_board_age) (none) (w_X3_find res.1 c_board_askers res.2.1 res.2.2 c_board_told c_board_wishes u_board_places u_board_age) := by
  refine Con.mk (show plainName RX3 = true by decide +kernel) (leb rfl) (fun κ ω A ad => ?_)
  change GG mu_X3_find κ ω A (QR κ ω A ad (none) (w_X3_find res.1 c_board_askers res.2.1 res.2.2 c_board_told c_board_wishes u_board_places u_board_age)) ad 0 0 0 (w_X3_find c_length c_board_askers c_members c_wants c_board_told c_board_wishes u_board_places u_board_age) [some (.ref 0), some (.int a1), some (.int a2), none] []
  refine G_iconst 0 dX3_find_0 (by decide) ?_
  refine G_istore_n dX3_find_1 rfl (ltb rfl) ?_
  change GG _ _ _ _ _ _ _ _ _ _ [some (.ref 0), some (.int a1), some (.int a2), some (.int 0)] _
  exact g_X3_find_2 N hf
