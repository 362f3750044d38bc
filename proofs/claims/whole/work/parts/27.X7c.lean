/-! printed by wip/gen: WishPlaces, part 2 -/
theorem m_X7_257 : Cond.methodLink RX7 257 yX7_count ∈ ALLW := all_of 757 (by decide +kernel) (by decide +kernel)
theorem m_X7_260 : Cond.methodLink RX7 260 yX0_digestOn ∈ ALLW := all_of 758 (by decide +kernel) (by decide +kernel)
theorem k_X7_253 : Cond.constantLong RX7 253 331 ∈ ALLW := all_of 755 (by decide +kernel) (by decide +kernel)
theorem k_X7_255 : Cond.constantLong RX7 255 31 ∈ ALLW := all_of 756 (by decide +kernel) (by decide +kernel)
abbrev mu_X7_digest : KM := (yX7_digest, cX7_digest, 4, (some .long), { frames := 2, cells := 0, slots := 0, locals := 48 }, [], [])
def w_X7_digest (c_above : Int64) (c_below : Int64) (c_board_askers : Int32) (c_board_places : Int32) (c_board_seats : Nat → Int32) (c_board_told : Nat → Int32) (c_board_wishes : Nat → Int32) (u_board_age : Int32) : List mE := [.inr (7, [.ref 1, .ref 1000, .ref 1001, .ref 1002, .ref 1003, .ref 1004, .ref 1005, .ref 1006, .ref 1007, .ref 1008, .long c_above, .long c_below]), .inr (0, [.int c_board_askers, .int c_board_places, .int u_board_age, .ref 2, .ref 4, .ref 1009, .ref 3]), .inl (0, 6, .inl c_board_seats), .inl (0, 32, .inl c_board_told), .inl (0, 48, .inl c_board_wishes)]
theorem cw_X7_digest : CWv mu_X7_digest 0 := ⟨⟨all_of 754 (by decide +kernel) (by decide +kernel), all_of 1 (by decide +kernel) (by decide +kernel), by decide +kernel, by decide +kernel, by decide +kernel⟩, all_of 752 (by decide +kernel) (by decide +kernel), all_of 753 (by decide +kernel) (by decide +kernel)⟩
set_option maxRecDepth 20000 in
theorem dX7_digest_0 : decode cX7_digest 0 = .ok (.ldc2_w 253, 3) := by decide +kernel
set_option maxRecDepth 20000 in
theorem dX7_digest_3 : decode cX7_digest 3 = .ok (.lstore_n 1, 1) := by decide +kernel
set_option maxRecDepth 20000 in
theorem dX7_digest_4 : decode cX7_digest 4 = .ok (.iconst 0, 1) := by decide +kernel
set_option maxRecDepth 20000 in
theorem dX7_digest_5 : decode cX7_digest 5 = .ok (.istore_n 3, 1) := by decide +kernel
set_option maxRecDepth 20000 in
theorem dX7_digest_6 : decode cX7_digest 6 = .ok (.iload_n 3, 1) := by decide +kernel
set_option maxRecDepth 20000 in
theorem dX7_digest_7 : decode cX7_digest 7 = .ok (.iconst 3, 1) := by decide +kernel
set_option maxRecDepth 20000 in
theorem dX7_digest_8 : decode cX7_digest 8 = .ok (.if_icmp .gt 22, 3) := by decide +kernel
set_option maxRecDepth 20000 in
theorem dX7_digest_11 : decode cX7_digest 11 = .ok (.ldc2_w 255, 3) := by decide +kernel
set_option maxRecDepth 20000 in
theorem dX7_digest_14 : decode cX7_digest 14 = .ok (.lload_n 1, 1) := by decide +kernel
set_option maxRecDepth 20000 in
theorem dX7_digest_15 : decode cX7_digest 15 = .ok (.lmul, 1) := by decide +kernel
set_option maxRecDepth 20000 in
theorem dX7_digest_16 : decode cX7_digest 16 = .ok (.aload_n 0, 1) := by decide +kernel
set_option maxRecDepth 20000 in
theorem dX7_digest_17 : decode cX7_digest 17 = .ok (.iload_n 3, 1) := by decide +kernel
set_option maxRecDepth 20000 in
theorem dX7_digest_18 : decode cX7_digest 18 = .ok (.invokevirtual 257, 3) := by decide +kernel
set_option maxRecDepth 20000 in
theorem dX7_digest_21 : decode cX7_digest 21 = .ok (.i2l, 1) := by decide +kernel
set_option maxRecDepth 20000 in
theorem dX7_digest_22 : decode cX7_digest 22 = .ok (.ladd, 1) := by decide +kernel
set_option maxRecDepth 20000 in
theorem dX7_digest_23 : decode cX7_digest 23 = .ok (.lstore_n 1, 1) := by decide +kernel
set_option maxRecDepth 20000 in
theorem dX7_digest_24 : decode cX7_digest 24 = .ok (.iinc 3 1, 3) := by decide +kernel
set_option maxRecDepth 20000 in
theorem dX7_digest_27 : decode cX7_digest 27 = .ok (.goto (-21), 3) := by decide +kernel
set_option maxRecDepth 20000 in
theorem dX7_digest_30 : decode cX7_digest 30 = .ok (.aload_n 0, 1) := by decide +kernel
set_option maxRecDepth 20000 in
theorem dX7_digest_31 : decode cX7_digest 31 = .ok (.getfield 10, 3) := by decide +kernel
set_option maxRecDepth 20000 in
theorem dX7_digest_34 : decode cX7_digest 34 = .ok (.lload_n 1, 1) := by decide +kernel
set_option maxRecDepth 20000 in
theorem dX7_digest_35 : decode cX7_digest 35 = .ok (.invokevirtual 260, 3) := by decide +kernel
set_option maxRecDepth 20000 in
theorem dX7_digest_38 : decode cX7_digest 38 = .ok (.lstore_n 1, 1) := by decide +kernel
set_option maxRecDepth 20000 in
theorem dX7_digest_39 : decode cX7_digest 39 = .ok (.ldc2_w 255, 3) := by decide +kernel
set_option maxRecDepth 20000 in
theorem dX7_digest_42 : decode cX7_digest 42 = .ok (.lload_n 1, 1) := by decide +kernel
set_option maxRecDepth 20000 in
theorem dX7_digest_43 : decode cX7_digest 43 = .ok (.lmul, 1) := by decide +kernel
set_option maxRecDepth 20000 in
theorem dX7_digest_44 : decode cX7_digest 44 = .ok (.aload_n 0, 1) := by decide +kernel
set_option maxRecDepth 20000 in
theorem dX7_digest_45 : decode cX7_digest 45 = .ok (.getfield 72, 3) := by decide +kernel
set_option maxRecDepth 20000 in
theorem dX7_digest_48 : decode cX7_digest 48 = .ok (.ladd, 1) := by decide +kernel
set_option maxRecDepth 20000 in
theorem dX7_digest_49 : decode cX7_digest 49 = .ok (.lstore_n 1, 1) := by decide +kernel
set_option maxRecDepth 20000 in
theorem dX7_digest_50 : decode cX7_digest 50 = .ok (.ldc2_w 255, 3) := by decide +kernel
set_option maxRecDepth 20000 in
theorem dX7_digest_53 : decode cX7_digest 53 = .ok (.lload_n 1, 1) := by decide +kernel
set_option maxRecDepth 20000 in
theorem dX7_digest_54 : decode cX7_digest 54 = .ok (.lmul, 1) := by decide +kernel
set_option maxRecDepth 20000 in
theorem dX7_digest_55 : decode cX7_digest 55 = .ok (.aload_n 0, 1) := by decide +kernel
set_option maxRecDepth 20000 in
theorem dX7_digest_56 : decode cX7_digest 56 = .ok (.getfield 76, 3) := by decide +kernel
set_option maxRecDepth 20000 in
theorem dX7_digest_59 : decode cX7_digest 59 = .ok (.ladd, 1) := by decide +kernel
set_option maxRecDepth 20000 in
theorem dX7_digest_60 : decode cX7_digest 60 = .ok (.lreturn, 1) := by decide +kernel
def f_X7_digest_6 (N : Nat) (c_above : Int64) (c_below : Int64) (c_board_askers : Int32) (c_board_places : Int32) (c_board_seats : Nat → Int32) (c_board_told : Nat → Int32) (c_board_wishes : Nat → Int32) : Nat → Int64 → Int32 → Option (Int64)
  | 0, _, _ => none
  | n + 1, v1, v3 =>
    (if 3 < v3 then
      (f_X0_digestOn N c_board_askers c_board_places c_board_seats c_board_told c_board_wishes v1).bind fun r2 =>
      some ((31 * ((31 * r2) + c_above)) + c_below)
    else
      (f_X7_count N c_board_askers c_board_places c_board_seats c_board_wishes v3).bind fun r4 =>
      f_X7_digest_6 N c_above c_below c_board_askers c_board_places c_board_seats c_board_told c_board_wishes n ((31 * v1) + r4.toInt64) (v3 + 1))
set_option maxHeartbeats 4000000 in
set_option maxRecDepth 100000 in
theorem g_X7_digest_6 {κ : KC} {ω : KW} {A : Nat → Prop} {ad : Nat → Nat} {u_board_age : Int32} {N : Nat} {c_above : Int64} {c_below : Int64} {c_board_askers : Int32} {c_board_places : Int32} {c_board_seats : Nat → Int32} {c_board_told : Nat → Int32} {c_board_wishes : Nat → Int32}  {res : Int64} : ∀ (n : Nat) {v1 : Int64} {v3 : Int32}, f_X7_digest_6 N c_above c_below c_board_askers c_board_places c_board_seats c_board_told c_board_wishes n v1 v3 = some res → GG mu_X7_digest κ ω A (QR κ ω A ad (some (.long res)) (w_X7_digest c_above c_below c_board_askers c_board_places c_board_seats c_board_told c_board_wishes u_board_age)) ad 0 0 6 (w_X7_digest c_above c_below c_board_askers c_board_places c_board_seats c_board_told c_board_wishes u_board_age) [some (.ref 0), some (.long v1), none, some (.int v3)] [] := by
  intro n
  induction n with
  | zero => intro v1 v3 hf; exact ob_0 hf
  | succ n ih =>
    intro v1 v3 hf
    refine G_iload_n dX7_digest_6 rfl rfl ?_
    refine G_iconst 3 dX7_digest_7 (by decide) ?_
    refine G_icmp_gt 30 dX7_digest_8 (by decide) (fun h1 => ?_) (fun h1 => ?_)
    · replace hf := ob_t h1 hf
      refine G_aload_n dX7_digest_30 rfl rfl ?_
      refine G_get (v := .ref 1) F_X7_10 dX7_digest_31 rfl rfl ?_
      refine G_lload_n dX7_digest_34 rfl rfl ?_
      obtain ⟨r2, hc3, hf⟩ := ob hf
      refine G_callV (μ2 := mu_X0_digestOn) (As := [.long v1]) (w2 := (w_X7_digest c_above c_below c_board_askers c_board_places c_board_seats c_board_told c_board_wishes u_board_age)) (wc := (w_X0_digestOn c_board_askers c_board_places c_board_seats c_board_told c_board_wishes u_board_age)) (wc2 := (w_X0_digestOn c_board_askers c_board_places c_board_seats c_board_told c_board_wishes u_board_age)) (rest := []) (rv := [.long r2]) [1, 2, 3, 4] [1009] [0] [0, 1, 2, 3, 4] (c_X0_digestOn hc3) cw_X0_digestOn m_X7_260 dX7_digest_35 rfl ⟨leb rfl, leb rfl⟩ ⟨rfl, rfl⟩ rfl ⟨_, rfl, rfl⟩ (Fit.mk rfl rfl rfl) rfl (leb rfl) (ROsub.nil rfl rfl) rfl ?_
      change GG _ _ _ _ _ _ _ _ _ (w_X7_digest c_above c_below c_board_askers c_board_places c_board_seats c_board_told c_board_wishes u_board_age) [some (.ref 0), some (.long v1), none, some (.int v3)] [.long r2]
      refine G_lstore_n dX7_digest_38 rfl (ltb rfl) ?_
      change GG _ _ _ _ _ _ _ _ _ _ [some (.ref 0), some (.long r2), none, some (.int v3)] _
      refine G_ldc2 (v := 31) dX7_digest_39 k_X7_255 ?_
      refine G_lload_n dX7_digest_42 rfl rfl ?_
      refine G_lmul dX7_digest_43 ?_
      refine G_aload_n dX7_digest_44 rfl rfl ?_
      refine G_get (v := .long c_above) F_X7_72 dX7_digest_45 rfl rfl ?_
      refine G_ladd dX7_digest_48 ?_
      refine G_lstore_n dX7_digest_49 rfl (ltb rfl) ?_
      change GG _ _ _ _ _ _ _ _ _ _ [some (.ref 0), some (.long ((31 * r2) + c_above)), none, some (.int v3)] _
      refine G_ldc2 (v := 31) dX7_digest_50 k_X7_255 ?_
      refine G_lload_n dX7_digest_53 rfl rfl ?_
      refine G_lmul dX7_digest_54 ?_
      refine G_aload_n dX7_digest_55 rfl rfl ?_
      refine G_get (v := .long c_below) F_X7_76 dX7_digest_56 rfl rfl ?_
      refine G_ladd dX7_digest_59 ?_
      obtain rfl := os hf
      exact G_lreturn dX7_digest_60 rfl
    · replace hf := ob_f h1 hf
      refine G_ldc2 (v := 31) dX7_digest_11 k_X7_255 ?_
      refine G_lload_n dX7_digest_14 rfl rfl ?_
      refine G_lmul dX7_digest_15 ?_
      refine G_aload_n dX7_digest_16 rfl rfl ?_
      refine G_iload_n dX7_digest_17 rfl rfl ?_
      obtain ⟨r4, hc5, hf⟩ := ob hf
      refine G_callV (μ2 := mu_X7_count) (As := [.int v3]) (w2 := (w_X7_digest c_above c_below c_board_askers c_board_places c_board_seats c_board_told c_board_wishes u_board_age)) (wc := (w_X7_count c_board_askers c_board_places c_board_seats c_board_wishes c_above c_below u_board_age)) (wc2 := (w_X7_count c_board_askers c_board_places c_board_seats c_board_wishes c_above c_below u_board_age)) (rest := [.long (31 * v1)]) (rv := [.int r4]) [0, 1, 2, 4] [1000, 1001, 1002, 1003, 1004, 1005, 1006, 1007, 1008, 1009, 3] [3] [1, 2, 3, 0, 4] (c_X7_count hc5) cw_X7_count m_X7_257 dX7_digest_18 rfl ⟨leb rfl, leb rfl⟩ ⟨rfl, rfl⟩ rfl ⟨_, rfl, rfl⟩ (Fit.mk rfl rfl rfl) rfl (leb rfl) (ROsub.nil rfl rfl) rfl ?_
      change GG _ _ _ _ _ _ _ _ _ (w_X7_digest c_above c_below c_board_askers c_board_places c_board_seats c_board_told c_board_wishes u_board_age) [some (.ref 0), some (.long v1), none, some (.int v3)] [.int r4, .long (31 * v1)]
      refine G_i2l dX7_digest_21 ?_
      refine G_ladd dX7_digest_22 ?_
      refine G_lstore_n dX7_digest_23 rfl (ltb rfl) ?_
      change GG _ _ _ _ _ _ _ _ _ _ [some (.ref 0), some (.long ((31 * v1) + r4.toInt64)), none, some (.int v3)] _
      refine G_iinc 1 dX7_digest_24 (by decide) rfl (ltb rfl) ?_
      change GG _ _ _ _ _ _ _ _ _ _ [some (.ref 0), some (.long ((31 * v1) + r4.toInt64)), none, some (.int (v3 + 1))] _
      refine G_goto 6 dX7_digest_27 (by decide) ?_
      exact ih hf
def f_X7_digest (N : Nat) (c_above : Int64) (c_below : Int64) (c_board_askers : Int32) (c_board_places : Int32) (c_board_seats : Nat → Int32) (c_board_told : Nat → Int32) (c_board_wishes : Nat → Int32)  : Option (Int64) :=
  f_X7_digest_6 N c_above c_below c_board_askers c_board_places c_board_seats c_board_told c_board_wishes N 331 0
set_option maxHeartbeats 4000000 in
set_option maxRecDepth 100000 in
theorem c_X7_digest {N : Nat} {c_above : Int64} {c_below : Int64} {c_board_askers : Int32} {c_board_places : Int32} {c_board_seats : Nat → Int32} {c_board_told : Nat → Int32} {c_board_wishes : Nat → Int32}  {u_board_age : Int32}  {res : Int64} (hf : f_X7_digest N c_above c_below c_board_askers c_board_places c_board_seats c_board_told c_board_wishes = some res) : Con mu_X7_digest [.ref 0] (w_X7_digest c_above c_below c_board_askers c_board_places c_board_seats c_board_told c_board_wishes u_board_age) (some (.long res)) (w_X7_digest c_above c_below c_board_askers c_board_places c_board_seats c_board_told c_board_wishes u_board_age) := by
  refine Con.mk (show plainName RX7 = true by decide +kernel) (leb rfl) (fun κ ω A ad => ?_)
  change GG mu_X7_digest κ ω A (QR κ ω A ad (some (.long res)) (w_X7_digest c_above c_below c_board_askers c_board_places c_board_seats c_board_told c_board_wishes u_board_age)) ad 0 0 0 (w_X7_digest c_above c_below c_board_askers c_board_places c_board_seats c_board_told c_board_wishes u_board_age) [some (.ref 0), none, none, none] []
  refine G_ldc2 (v := 331) dX7_digest_0 k_X7_253 ?_
  refine G_lstore_n dX7_digest_3 rfl (ltb rfl) ?_
  change GG _ _ _ _ _ _ _ _ _ _ [some (.ref 0), some (.long 331), none, none] _
  refine G_iconst 0 dX7_digest_4 (by decide) ?_
  refine G_istore_n dX7_digest_5 rfl (ltb rfl) ?_
  change GG _ _ _ _ _ _ _ _ _ _ [some (.ref 0), some (.long 331), none, some (.int 0)] _
  exact g_X7_digest_6 N hf
