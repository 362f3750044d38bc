/-! printed by wip/gen: the constructors -/
theorem m_X7_9 : Cond.methodLink RX7 9 yX0_init ∈ ALLW := all_of 21 (by decide +kernel) (by decide +kernel)
theorem m_X7_18 : Cond.methodLink RX7 18 yX4_init ∈ ALLW := all_of 66 (by decide +kernel) (by decide +kernel)
theorem m_X7_33 : Cond.methodLink RX7 33 yX5_init ∈ ALLW := all_of 121 (by decide +kernel) (by decide +kernel)
theorem m_X7_42 : Cond.methodLink RX7 42 yX6_init ∈ ALLW := all_of 141 (by decide +kernel) (by decide +kernel)
theorem m_X7_49 : Cond.methodLink RX7 49 yX3_init ∈ ALLW := all_of 168 (by decide +kernel) (by decide +kernel)
theorem m_X7_56 : Cond.methodLink RX7 56 yX2_init ∈ ALLW := all_of 189 (by decide +kernel) (by decide +kernel)
theorem m_X7_63 : Cond.methodLink RX7 63 yX1_init ∈ ALLW := all_of 221 (by decide +kernel) (by decide +kernel)
theorem k_X8_48 : Cond.constant RX8 48 331776 ∈ ALLW := all_of 771 (by decide +kernel) (by decide +kernel)
theorem k_X8_65 : Cond.constant RX8 65 1048576 ∈ ALLW := all_of 772 (by decide +kernel) (by decide +kernel)
theorem aw_0 : Cond.arrayClass .int ∈ ALLW := all_of 63 (by decide +kernel) (by decide +kernel)
theorem aw_1 : Cond.arrayClass .long ∈ ALLW := all_of 218 (by decide +kernel) (by decide +kernel)
theorem aw_2 : Cond.arrayClass .boolean ∈ ALLW := all_of 861 (by decide +kernel) (by decide +kernel)
theorem oi_i : Cond.instanceMethod Lib.objectInit ∈ ALLW := all_of 17 (by decide +kernel) (by decide +kernel)
theorem oi_c : Cond.code Lib.objectInit ⟨#[0xb1]⟩ 1 none ∈ ALLW := all_of 18 (by decide +kernel) (by decide +kernel)
theorem mo_X0_3 : Cond.methodLink RX0 3 Lib.objectInit ∈ ALLW := all_of 24 (by decide +kernel) (by decide +kernel)
theorem mo_X1_3 : Cond.methodLink RX1 3 Lib.objectInit ∈ ALLW := all_of 224 (by decide +kernel) (by decide +kernel)
theorem mo_X2_3 : Cond.methodLink RX2 3 Lib.objectInit ∈ ALLW := all_of 192 (by decide +kernel) (by decide +kernel)
theorem mo_X3_3 : Cond.methodLink RX3 3 Lib.objectInit ∈ ALLW := all_of 171 (by decide +kernel) (by decide +kernel)
theorem mo_X4_3 : Cond.methodLink RX4 3 Lib.objectInit ∈ ALLW := all_of 69 (by decide +kernel) (by decide +kernel)
theorem mo_X5_3 : Cond.methodLink RX5 3 Lib.objectInit ∈ ALLW := all_of 124 (by decide +kernel) (by decide +kernel)
theorem mo_X6_3 : Cond.methodLink RX6 3 Lib.objectInit ∈ ALLW := all_of 144 (by decide +kernel) (by decide +kernel)
theorem mo_X7_1 : Cond.methodLink RX7 1 Lib.objectInit ∈ ALLW := all_of 16 (by decide +kernel) (by decide +kernel)
theorem mo_X8_1 : Cond.methodLink RX8 1 Lib.objectInit ∈ ALLW := all_of 769 (by decide +kernel) (by decide +kernel)
theorem N_X7_7 : NEW RX7 7 0 [.int 0, .int 0, .int 0, .null, .null, .null, .null] := ⟨RX0, TX0, 7, tyX0, rfl, rfl, uX0, tyX0_ok, all_of 19 (by decide +kernel) (by decide +kernel), all_of 20 (by decide +kernel) (by decide +kernel), all_of 2 (by decide +kernel) (by decide +kernel), by decide +kernel⟩
theorem N_X7_16 : NEW RX7 16 4 [.null, .null, .null, .int 0, .int 0, .int 0, .null, .null, .null, .null, .null, .int 0, .null, .null, .null, .null] := ⟨RX4, TX4, 16, tyX4, rfl, rfl, uX4, tyX4_ok, all_of 64 (by decide +kernel) (by decide +kernel), all_of 65 (by decide +kernel) (by decide +kernel), all_of 3 (by decide +kernel) (by decide +kernel), by decide +kernel⟩
theorem N_X7_31 : NEW RX7 31 5 [.null, .int 0, .null, .int 0] := ⟨RX5, TX5, 4, tyX5, rfl, rfl, uX5, tyX5_ok, all_of 119 (by decide +kernel) (by decide +kernel), all_of 120 (by decide +kernel) (by decide +kernel), all_of 4 (by decide +kernel) (by decide +kernel), by decide +kernel⟩
theorem N_X7_40 : NEW RX7 40 6 [.null, .null, .null, .null, .null, .null] := ⟨RX6, TX6, 6, tyX6, rfl, rfl, uX6, tyX6_ok, all_of 139 (by decide +kernel) (by decide +kernel), all_of 140 (by decide +kernel) (by decide +kernel), all_of 5 (by decide +kernel) (by decide +kernel), by decide +kernel⟩
theorem N_X7_47 : NEW RX7 47 3 [.null, .null, .int 0, .null] := ⟨RX3, TX3, 4, tyX3, rfl, rfl, uX3, tyX3_ok, all_of 166 (by decide +kernel) (by decide +kernel), all_of 167 (by decide +kernel) (by decide +kernel), all_of 6 (by decide +kernel) (by decide +kernel), by decide +kernel⟩
theorem N_X7_54 : NEW RX7 54 2 [.null, .null, .int 0, .null, .null, .long 0, .int 0, .int 0] := ⟨RX2, TX2, 8, tyX2, rfl, rfl, uX2, tyX2_ok, all_of 187 (by decide +kernel) (by decide +kernel), all_of 188 (by decide +kernel) (by decide +kernel), all_of 7 (by decide +kernel) (by decide +kernel), by decide +kernel⟩
theorem N_X7_61 : NEW RX7 61 1 [.long 0, .null, .long 0, .null, .null, .null, .null] := ⟨RX1, TX1, 7, tyX1, rfl, rfl, uX1, tyX1_ok, all_of 219 (by decide +kernel) (by decide +kernel), all_of 220 (by decide +kernel) (by decide +kernel), all_of 8 (by decide +kernel) (by decide +kernel), by decide +kernel⟩
abbrev mu_X0_init : KM := (yX0_init, cX0_init, 2, none, { frames := 1, cells := 4, slots := 134, locals := 12 }, [], [])
def wi_X0 (c_likes : Nat → Int32) (c_told : Nat → Int32) : List mE := [.inr (0, [.int 0, .int 0, .int 0, .ref 1, .ref 2, .ref 3, .ref 4]), .inl (0, 6, .inl (fun _ => 0)), .inl (0, 48, .inl (fun _ => 0)), .inl (0, 48, .inl c_likes), .inl (0, 32, .inl c_told)]
theorem cwi_X0 : CWi mu_X0_init 0 := ⟨⟨all_of 23 (by decide +kernel) (by decide +kernel), all_of 2 (by decide +kernel) (by decide +kernel), by decide +kernel, by decide +kernel, by decide +kernel⟩, all_of 22 (by decide +kernel) (by decide +kernel), rfl, rfl⟩
set_option maxRecDepth 20000 in
theorem dX0_init_0 : decode cX0_init 0 = .ok (.aload_n 0, 1) := by decide +kernel
set_option maxRecDepth 20000 in
theorem dX0_init_1 : decode cX0_init 1 = .ok (.invokespecial 3, 3) := by decide +kernel
set_option maxRecDepth 20000 in
theorem dX0_init_4 : decode cX0_init 4 = .ok (.aload_n 0, 1) := by decide +kernel
set_option maxRecDepth 20000 in
theorem dX0_init_5 : decode cX0_init 5 = .ok (.bipush 6, 2) := by decide +kernel
set_option maxRecDepth 20000 in
theorem dX0_init_7 : decode cX0_init 7 = .ok (.newarray .int, 2) := by decide +kernel
set_option maxRecDepth 20000 in
theorem dX0_init_9 : decode cX0_init 9 = .ok (.putfield 9, 3) := by decide +kernel
set_option maxRecDepth 20000 in
theorem dX0_init_12 : decode cX0_init 12 = .ok (.aload_n 0, 1) := by decide +kernel
set_option maxRecDepth 20000 in
theorem dX0_init_13 : decode cX0_init 13 = .ok (.bipush 48, 2) := by decide +kernel
set_option maxRecDepth 20000 in
theorem dX0_init_15 : decode cX0_init 15 = .ok (.newarray .int, 2) := by decide +kernel
set_option maxRecDepth 20000 in
theorem dX0_init_17 : decode cX0_init 17 = .ok (.putfield 15, 3) := by decide +kernel
set_option maxRecDepth 20000 in
theorem dX0_init_20 : decode cX0_init 20 = .ok (.aload_n 0, 1) := by decide +kernel
set_option maxRecDepth 20000 in
theorem dX0_init_21 : decode cX0_init 21 = .ok (.bipush 48, 2) := by decide +kernel
set_option maxRecDepth 20000 in
theorem dX0_init_23 : decode cX0_init 23 = .ok (.newarray .int, 2) := by decide +kernel
set_option maxRecDepth 20000 in
theorem dX0_init_25 : decode cX0_init 25 = .ok (.putfield 18, 3) := by decide +kernel
set_option maxRecDepth 20000 in
theorem dX0_init_28 : decode cX0_init 28 = .ok (.aload_n 0, 1) := by decide +kernel
set_option maxRecDepth 20000 in
theorem dX0_init_29 : decode cX0_init 29 = .ok (.bipush 32, 2) := by decide +kernel
set_option maxRecDepth 20000 in
theorem dX0_init_31 : decode cX0_init 31 = .ok (.newarray .int, 2) := by decide +kernel
set_option maxRecDepth 20000 in
theorem dX0_init_33 : decode cX0_init 33 = .ok (.putfield 21, 3) := by decide +kernel
set_option maxRecDepth 20000 in
theorem dX0_init_36 : decode cX0_init 36 = .ok (.iconst 0, 1) := by decide +kernel
set_option maxRecDepth 20000 in
theorem dX0_init_37 : decode cX0_init 37 = .ok (.istore_n 1, 1) := by decide +kernel
set_option maxRecDepth 20000 in
theorem dX0_init_38 : decode cX0_init 38 = .ok (.iload_n 1, 1) := by decide +kernel
set_option maxRecDepth 20000 in
theorem dX0_init_39 : decode cX0_init 39 = .ok (.bipush 32, 2) := by decide +kernel
set_option maxRecDepth 20000 in
theorem dX0_init_41 : decode cX0_init 41 = .ok (.if_icmp .ge 16, 3) := by decide +kernel
set_option maxRecDepth 20000 in
theorem dX0_init_44 : decode cX0_init 44 = .ok (.aload_n 0, 1) := by decide +kernel
set_option maxRecDepth 20000 in
theorem dX0_init_45 : decode cX0_init 45 = .ok (.getfield 21, 3) := by decide +kernel
set_option maxRecDepth 20000 in
theorem dX0_init_48 : decode cX0_init 48 = .ok (.iload_n 1, 1) := by decide +kernel
set_option maxRecDepth 20000 in
theorem dX0_init_49 : decode cX0_init 49 = .ok (.iconst (-1), 1) := by decide +kernel
set_option maxRecDepth 20000 in
theorem dX0_init_50 : decode cX0_init 50 = .ok (.iastore, 1) := by decide +kernel
set_option maxRecDepth 20000 in
theorem dX0_init_51 : decode cX0_init 51 = .ok (.iinc 1 1, 3) := by decide +kernel
set_option maxRecDepth 20000 in
theorem dX0_init_54 : decode cX0_init 54 = .ok (.goto (-16), 3) := by decide +kernel
set_option maxRecDepth 20000 in
theorem dX0_init_57 : decode cX0_init 57 = .ok (.iconst 0, 1) := by decide +kernel
set_option maxRecDepth 20000 in
theorem dX0_init_58 : decode cX0_init 58 = .ok (.istore_n 1, 1) := by decide +kernel
set_option maxRecDepth 20000 in
theorem dX0_init_59 : decode cX0_init 59 = .ok (.iload_n 1, 1) := by decide +kernel
set_option maxRecDepth 20000 in
theorem dX0_init_60 : decode cX0_init 60 = .ok (.bipush 48, 2) := by decide +kernel
set_option maxRecDepth 20000 in
theorem dX0_init_62 : decode cX0_init 62 = .ok (.if_icmp .ge 16, 3) := by decide +kernel
set_option maxRecDepth 20000 in
theorem dX0_init_65 : decode cX0_init 65 = .ok (.aload_n 0, 1) := by decide +kernel
set_option maxRecDepth 20000 in
theorem dX0_init_66 : decode cX0_init 66 = .ok (.getfield 18, 3) := by decide +kernel
set_option maxRecDepth 20000 in
theorem dX0_init_69 : decode cX0_init 69 = .ok (.iload_n 1, 1) := by decide +kernel
set_option maxRecDepth 20000 in
theorem dX0_init_70 : decode cX0_init 70 = .ok (.iconst (-1), 1) := by decide +kernel
set_option maxRecDepth 20000 in
theorem dX0_init_71 : decode cX0_init 71 = .ok (.iastore, 1) := by decide +kernel
set_option maxRecDepth 20000 in
theorem dX0_init_72 : decode cX0_init 72 = .ok (.iinc 1 1, 3) := by decide +kernel
set_option maxRecDepth 20000 in
theorem dX0_init_75 : decode cX0_init 75 = .ok (.goto (-16), 3) := by decide +kernel
set_option maxRecDepth 20000 in
theorem dX0_init_78 : decode cX0_init 78 = .ok (.return_, 1) := by decide +kernel
def f_X0_init_59 (N : Nat) : Nat → (Nat → Int32) → (Nat → Int32) → Int32 → Option ((Nat → Int32) × (Nat → Int32))
  | 0, _, _, _ => none
  | n + 1, c_likes, c_told, v1 =>
    (if 48 ≤ v1 then
      some (c_likes, c_told)
    else
      (wrI 48 c_likes v1 (-1 : Int32)).bind fun t2 =>
      f_X0_init_59 N n t2 c_told (v1 + 1))
set_option maxHeartbeats 4000000 in
set_option maxRecDepth 100000 in
theorem g_X0_init_59 {κ : KC} {ω : KW} {A : Nat → Prop} {ad δ : Nat → Nat} {N : Nat} {res : (Nat → Int32) × (Nat → Int32)} : ∀ (n : Nat) {c_likes : Nat → Int32} {c_told : Nat → Int32} {v1 : Int32}, f_X0_init_59 N n c_likes c_told v1 = some res → GG mu_X0_init κ ω A (QA κ ω A ad 1 (wi_X0 res.1 res.2) mu_X0_init.2.2.2.2.1.cells mu_X0_init.2.2.2.2.1.slots) (ext ad 1 δ) 4 134 59 (wi_X0 c_likes c_told) [some (.ref 0), some (.int v1)] [] := by
  intro n
  induction n with
  | zero => intro c_likes c_told v1 hf; exact ob_0 hf
  | succ n ih =>
    intro c_likes c_told v1 hf
    refine G_iload_n dX0_init_59 rfl rfl ?_
    refine G_bipush 48 dX0_init_60 (by decide) ?_
    refine G_icmp_ge 78 dX0_init_62 (by decide) (fun h1 => ?_) (fun h1 => ?_)
    · replace hf := ob_t h1 hf
      obtain rfl := os hf
      exact G_returnA dX0_init_78 rfl (lel (a' := 4) (b' := 4) rfl rfl rfl) (lel (a' := 134) (b' := 134) rfl rfl rfl)
    · replace hf := ob_f h1 hf
      refine G_aload_n dX0_init_65 rfl rfl ?_
      refine G_get (v := .ref 3) F_X0_18 dX0_init_66 rfl rfl ?_
      refine G_iload_n dX0_init_69 rfl rfl ?_
      refine G_iconst (-1 : Int32) dX0_init_70 (by decide) ?_
      obtain ⟨t2, ht2, hf⟩ := ob hf
      refine G_iast (w2 := (wi_X0 t2 c_told)) dX0_init_71 rfl ht2 rfl ?_
      refine G_iinc 1 dX0_init_72 (by decide) rfl (ltb rfl) ?_
      change GG _ _ _ _ _ _ _ _ _ _ [some (.ref 0), some (.int (v1 + 1))] _
      refine G_goto 59 dX0_init_75 (by decide) ?_
      exact ih hf
def f_X0_init_38 (N : Nat) : Nat → (Nat → Int32) → (Nat → Int32) → Int32 → Option ((Nat → Int32) × (Nat → Int32))
  | 0, _, _, _ => none
  | n + 1, c_likes, c_told, v1 =>
    (if 32 ≤ v1 then
      f_X0_init_59 N N c_likes c_told 0
    else
      (wrI 32 c_told v1 (-1 : Int32)).bind fun t2 =>
      f_X0_init_38 N n c_likes t2 (v1 + 1))
set_option maxHeartbeats 4000000 in
set_option maxRecDepth 100000 in
theorem g_X0_init_38 {κ : KC} {ω : KW} {A : Nat → Prop} {ad δ : Nat → Nat} {N : Nat} {res : (Nat → Int32) × (Nat → Int32)} : ∀ (n : Nat) {c_likes : Nat → Int32} {c_told : Nat → Int32} {v1 : Int32}, f_X0_init_38 N n c_likes c_told v1 = some res → GG mu_X0_init κ ω A (QA κ ω A ad 1 (wi_X0 res.1 res.2) mu_X0_init.2.2.2.2.1.cells mu_X0_init.2.2.2.2.1.slots) (ext ad 1 δ) 4 134 38 (wi_X0 c_likes c_told) [some (.ref 0), some (.int v1)] [] := by
  intro n
  induction n with
  | zero => intro c_likes c_told v1 hf; exact ob_0 hf
  | succ n ih =>
    intro c_likes c_told v1 hf
    refine G_iload_n dX0_init_38 rfl rfl ?_
    refine G_bipush 32 dX0_init_39 (by decide) ?_
    refine G_icmp_ge 57 dX0_init_41 (by decide) (fun h1 => ?_) (fun h1 => ?_)
    · replace hf := ob_t h1 hf
      refine G_iconst 0 dX0_init_57 (by decide) ?_
      refine G_istore_n dX0_init_58 rfl (ltb rfl) ?_
      change GG _ _ _ _ _ _ _ _ _ _ [some (.ref 0), some (.int 0)] _
      exact g_X0_init_59 N hf
    · replace hf := ob_f h1 hf
      refine G_aload_n dX0_init_44 rfl rfl ?_
      refine G_get (v := .ref 4) F_X0_21 dX0_init_45 rfl rfl ?_
      refine G_iload_n dX0_init_48 rfl rfl ?_
      refine G_iconst (-1 : Int32) dX0_init_49 (by decide) ?_
      obtain ⟨t2, ht2, hf⟩ := ob hf
      refine G_iast (w2 := (wi_X0 c_likes t2)) dX0_init_50 rfl ht2 rfl ?_
      refine G_iinc 1 dX0_init_51 (by decide) rfl (ltb rfl) ?_
      change GG _ _ _ _ _ _ _ _ _ _ [some (.ref 0), some (.int (v1 + 1))] _
      refine G_goto 38 dX0_init_54 (by decide) ?_
      exact ih hf
def f_X0_init (N : Nat) : Option ((Nat → Int32) × (Nat → Int32)) :=
  f_X0_init_38 N N (fun _ => 0) (fun _ => 0) 0
set_option maxHeartbeats 4000000 in
set_option maxRecDepth 100000 in
theorem c_X0_init {N : Nat} {c_likes c_told : Nat → Int32} (hf : f_X0_init N = some (c_likes, c_told)) : ConA mu_X0_init [.ref 0] [.inr (0, [.int 0, .int 0, .int 0, .null, .null, .null, .null])] (wi_X0 c_likes c_told) := by
  refine ConA.mk (show plainName RX0 = true by decide +kernel) (leb rfl) (roHi.nil rfl rfl) (leb rfl) rfl (fun κ ω A ad δ => ?_)
  change GG mu_X0_init κ ω A (QA κ ω A ad 1 (wi_X0 c_likes c_told) mu_X0_init.2.2.2.2.1.cells mu_X0_init.2.2.2.2.1.slots) (ext ad 1 δ) 0 0 0 [.inr (0, [.int 0, .int 0, .int 0, .null, .null, .null, .null])] [some (.ref 0), none] []
  refine G_aload_n dX0_init_0 rfl rfl ?_
  refine G_objInit dX0_init_1 mo_X0_3 oi_i oi_c (leb rfl) (leb rfl) ?_
  refine G_aload_n dX0_init_4 rfl rfl ?_
  refine G_bipush 6 dX0_init_5 (by decide) ?_
  refine G_newarr (t := 0) (a0 := (6, .inl (fun _ => 0))) (L := 1) (N := 6) dX0_init_7 rfl aw_0 rfl ra_int (fun _ => rfl) (by decide) (by decide) (lel (a' := 24) (b' := 536870912) rfl rfl rfl) (lel (a' := 1) (b' := 4) rfl rfl rfl) (lel (a' := 6) (b' := 134) rfl rfl rfl) (roHi.nil rfl rfl) (leb rfl) rfl (fun δ => ?_)
  change GG _ _ _ _ _ _ 1 6 _ [.inr (0, [.int 0, .int 0, .int 0, .null, .null, .null, .null]), .inl (0, 6, .inl (fun _ => 0))] [some (.ref 0), none] [.ref 1, .ref 0]
  refine G_putF (w2 := [.inr (0, [.int 0, .int 0, .int 0, .ref 1, .null, .null, .null]), .inl (0, 6, .inl (fun _ => 0))]) F_X0_9 rfl (fun _ _ _ h => by cases h; rfl) dX0_init_9 rfl rfl rfl (ltb rfl) rfl ?_
  refine G_aload_n dX0_init_12 rfl rfl ?_
  refine G_bipush 48 dX0_init_13 (by decide) ?_
  refine G_newarr (t := 0) (a0 := (48, .inl (fun _ => 0))) (L := 2) (N := 48) dX0_init_15 rfl aw_0 rfl ra_int (fun _ => rfl) (by decide) (by decide) (lel (a' := 192) (b' := 536870912) rfl rfl rfl) (lel (a' := 2) (b' := 4) rfl rfl rfl) (lel (a' := 54) (b' := 134) rfl rfl rfl) (roHi.nil rfl rfl) (leb rfl) rfl (fun δ => ?_)
  change GG _ _ _ _ _ _ 2 54 _ [.inr (0, [.int 0, .int 0, .int 0, .ref 1, .null, .null, .null]), .inl (0, 6, .inl (fun _ => 0)), .inl (0, 48, .inl (fun _ => 0))] [some (.ref 0), none] [.ref 2, .ref 0]
  refine G_putF (w2 := [.inr (0, [.int 0, .int 0, .int 0, .ref 1, .ref 2, .null, .null]), .inl (0, 6, .inl (fun _ => 0)), .inl (0, 48, .inl (fun _ => 0))]) F_X0_15 rfl (fun _ _ _ h => by cases h; rfl) dX0_init_17 rfl rfl rfl (ltb rfl) rfl ?_
  refine G_aload_n dX0_init_20 rfl rfl ?_
  refine G_bipush 48 dX0_init_21 (by decide) ?_
  refine G_newarr (t := 0) (a0 := (48, .inl (fun _ => 0))) (L := 3) (N := 48) dX0_init_23 rfl aw_0 rfl ra_int (fun _ => rfl) (by decide) (by decide) (lel (a' := 192) (b' := 536870912) rfl rfl rfl) (lel (a' := 3) (b' := 4) rfl rfl rfl) (lel (a' := 102) (b' := 134) rfl rfl rfl) (roHi.nil rfl rfl) (leb rfl) rfl (fun δ => ?_)
  change GG _ _ _ _ _ _ 3 102 _ [.inr (0, [.int 0, .int 0, .int 0, .ref 1, .ref 2, .null, .null]), .inl (0, 6, .inl (fun _ => 0)), .inl (0, 48, .inl (fun _ => 0)), .inl (0, 48, .inl (fun _ => 0))] [some (.ref 0), none] [.ref 3, .ref 0]
  refine G_putF (w2 := [.inr (0, [.int 0, .int 0, .int 0, .ref 1, .ref 2, .ref 3, .null]), .inl (0, 6, .inl (fun _ => 0)), .inl (0, 48, .inl (fun _ => 0)), .inl (0, 48, .inl (fun _ => 0))]) F_X0_18 rfl (fun _ _ _ h => by cases h; rfl) dX0_init_25 rfl rfl rfl (ltb rfl) rfl ?_
  refine G_aload_n dX0_init_28 rfl rfl ?_
  refine G_bipush 32 dX0_init_29 (by decide) ?_
  refine G_newarr (t := 0) (a0 := (32, .inl (fun _ => 0))) (L := 4) (N := 32) dX0_init_31 rfl aw_0 rfl ra_int (fun _ => rfl) (by decide) (by decide) (lel (a' := 128) (b' := 536870912) rfl rfl rfl) (lel (a' := 4) (b' := 4) rfl rfl rfl) (lel (a' := 134) (b' := 134) rfl rfl rfl) (roHi.nil rfl rfl) (leb rfl) rfl (fun δ => ?_)
  change GG _ _ _ _ _ _ 4 134 _ [.inr (0, [.int 0, .int 0, .int 0, .ref 1, .ref 2, .ref 3, .null]), .inl (0, 6, .inl (fun _ => 0)), .inl (0, 48, .inl (fun _ => 0)), .inl (0, 48, .inl (fun _ => 0)), .inl (0, 32, .inl (fun _ => 0))] [some (.ref 0), none] [.ref 4, .ref 0]
  refine G_putF (w2 := [.inr (0, [.int 0, .int 0, .int 0, .ref 1, .ref 2, .ref 3, .ref 4]), .inl (0, 6, .inl (fun _ => 0)), .inl (0, 48, .inl (fun _ => 0)), .inl (0, 48, .inl (fun _ => 0)), .inl (0, 32, .inl (fun _ => 0))]) F_X0_21 rfl (fun _ _ _ h => by cases h; rfl) dX0_init_33 rfl rfl rfl (ltb rfl) rfl ?_
  change GG _ _ _ _ _ _ _ _ 36 (wi_X0 (fun _ => 0) (fun _ => 0)) _ _
  refine G_iconst 0 dX0_init_36 (by decide) ?_
  refine G_istore_n dX0_init_37 rfl (ltb rfl) ?_
  change GG _ _ _ _ _ _ _ _ _ _ [some (.ref 0), some (.int 0)] _
  exact g_X0_init_38 N hf
abbrev mu_X4_init : KM := (yX4_init, cX4_init, 3, none, { frames := 1, cells := 10, slots := 10709, locals := 12 }, [], [])
def wi_X4 : List mE := [.inr (4, [.ref 1000, .ref 1, .ref 2, .int (-1 : Int32), .int 0, .int 0, .ref 3, .ref 4, .ref 5, .ref 6, .ref 7, .int 0, .ref 1001, .ref 8, .ref 9, .ref 10]), .inl (0, 56, .inl (fun _ => 0)), .inl (0, 56, .inl (fun _ => 0)), .inl (0, 1056, .inl (fun _ => 0)), .inl (0, 1056, .inl (fun _ => 0)), .inl (0, 1056, .inl (fun _ => 0)), .inl (0, 7392, .inl (fun _ => 0)), .inl (0, 10, .inl (fun _ => 0)), .inl (0, 9, .inl (fun _ => 0)), .inl (0, 9, .inl (fun _ => 0)), .inl (0, 9, .inl (fun _ => 0))]
theorem cwi_X4 : CWi mu_X4_init 2 := ⟨⟨all_of 68 (by decide +kernel) (by decide +kernel), all_of 3 (by decide +kernel) (by decide +kernel), by decide +kernel, by decide +kernel, by decide +kernel⟩, all_of 67 (by decide +kernel) (by decide +kernel), rfl, rfl⟩
set_option maxRecDepth 20000 in
theorem dX4_init_0 : decode cX4_init 0 = .ok (.aload_n 0, 1) := by decide +kernel
set_option maxRecDepth 20000 in
theorem dX4_init_1 : decode cX4_init 1 = .ok (.invokespecial 3, 3) := by decide +kernel
set_option maxRecDepth 20000 in
theorem dX4_init_4 : decode cX4_init 4 = .ok (.aload_n 0, 1) := by decide +kernel
set_option maxRecDepth 20000 in
theorem dX4_init_5 : decode cX4_init 5 = .ok (.aload_n 1, 1) := by decide +kernel
set_option maxRecDepth 20000 in
theorem dX4_init_6 : decode cX4_init 6 = .ok (.putfield 9, 3) := by decide +kernel
set_option maxRecDepth 20000 in
theorem dX4_init_9 : decode cX4_init 9 = .ok (.aload_n 0, 1) := by decide +kernel
set_option maxRecDepth 20000 in
theorem dX4_init_10 : decode cX4_init 10 = .ok (.aload_n 2, 1) := by decide +kernel
set_option maxRecDepth 20000 in
theorem dX4_init_11 : decode cX4_init 11 = .ok (.putfield 15, 3) := by decide +kernel
set_option maxRecDepth 20000 in
theorem dX4_init_14 : decode cX4_init 14 = .ok (.aload_n 0, 1) := by decide +kernel
set_option maxRecDepth 20000 in
theorem dX4_init_15 : decode cX4_init 15 = .ok (.bipush 56, 2) := by decide +kernel
set_option maxRecDepth 20000 in
theorem dX4_init_17 : decode cX4_init 17 = .ok (.newarray .int, 2) := by decide +kernel
set_option maxRecDepth 20000 in
theorem dX4_init_19 : decode cX4_init 19 = .ok (.putfield 19, 3) := by decide +kernel
set_option maxRecDepth 20000 in
theorem dX4_init_22 : decode cX4_init 22 = .ok (.aload_n 0, 1) := by decide +kernel
set_option maxRecDepth 20000 in
theorem dX4_init_23 : decode cX4_init 23 = .ok (.bipush 56, 2) := by decide +kernel
set_option maxRecDepth 20000 in
theorem dX4_init_25 : decode cX4_init 25 = .ok (.newarray .int, 2) := by decide +kernel
set_option maxRecDepth 20000 in
theorem dX4_init_27 : decode cX4_init 27 = .ok (.putfield 22, 3) := by decide +kernel
set_option maxRecDepth 20000 in
theorem dX4_init_30 : decode cX4_init 30 = .ok (.aload_n 0, 1) := by decide +kernel
set_option maxRecDepth 20000 in
theorem dX4_init_31 : decode cX4_init 31 = .ok (.sipush 1056, 3) := by decide +kernel
set_option maxRecDepth 20000 in
theorem dX4_init_34 : decode cX4_init 34 = .ok (.newarray .int, 2) := by decide +kernel
set_option maxRecDepth 20000 in
theorem dX4_init_36 : decode cX4_init 36 = .ok (.putfield 25, 3) := by decide +kernel
set_option maxRecDepth 20000 in
theorem dX4_init_39 : decode cX4_init 39 = .ok (.aload_n 0, 1) := by decide +kernel
set_option maxRecDepth 20000 in
theorem dX4_init_40 : decode cX4_init 40 = .ok (.sipush 1056, 3) := by decide +kernel
set_option maxRecDepth 20000 in
theorem dX4_init_43 : decode cX4_init 43 = .ok (.newarray .int, 2) := by decide +kernel
set_option maxRecDepth 20000 in
theorem dX4_init_45 : decode cX4_init 45 = .ok (.putfield 28, 3) := by decide +kernel
set_option maxRecDepth 20000 in
theorem dX4_init_48 : decode cX4_init 48 = .ok (.aload_n 0, 1) := by decide +kernel
set_option maxRecDepth 20000 in
theorem dX4_init_49 : decode cX4_init 49 = .ok (.sipush 1056, 3) := by decide +kernel
set_option maxRecDepth 20000 in
theorem dX4_init_52 : decode cX4_init 52 = .ok (.newarray .int, 2) := by decide +kernel
set_option maxRecDepth 20000 in
theorem dX4_init_54 : decode cX4_init 54 = .ok (.putfield 31, 3) := by decide +kernel
set_option maxRecDepth 20000 in
theorem dX4_init_57 : decode cX4_init 57 = .ok (.aload_n 0, 1) := by decide +kernel
set_option maxRecDepth 20000 in
theorem dX4_init_58 : decode cX4_init 58 = .ok (.sipush 7392, 3) := by decide +kernel
set_option maxRecDepth 20000 in
theorem dX4_init_61 : decode cX4_init 61 = .ok (.newarray .int, 2) := by decide +kernel
set_option maxRecDepth 20000 in
theorem dX4_init_63 : decode cX4_init 63 = .ok (.putfield 34, 3) := by decide +kernel
set_option maxRecDepth 20000 in
theorem dX4_init_66 : decode cX4_init 66 = .ok (.aload_n 0, 1) := by decide +kernel
set_option maxRecDepth 20000 in
theorem dX4_init_67 : decode cX4_init 67 = .ok (.bipush 10, 2) := by decide +kernel
set_option maxRecDepth 20000 in
theorem dX4_init_69 : decode cX4_init 69 = .ok (.newarray .int, 2) := by decide +kernel
set_option maxRecDepth 20000 in
theorem dX4_init_71 : decode cX4_init 71 = .ok (.putfield 37, 3) := by decide +kernel
set_option maxRecDepth 20000 in
theorem dX4_init_74 : decode cX4_init 74 = .ok (.aload_n 0, 1) := by decide +kernel
set_option maxRecDepth 20000 in
theorem dX4_init_75 : decode cX4_init 75 = .ok (.bipush 9, 2) := by decide +kernel
set_option maxRecDepth 20000 in
theorem dX4_init_77 : decode cX4_init 77 = .ok (.newarray .int, 2) := by decide +kernel
set_option maxRecDepth 20000 in
theorem dX4_init_79 : decode cX4_init 79 = .ok (.putfield 40, 3) := by decide +kernel
set_option maxRecDepth 20000 in
theorem dX4_init_82 : decode cX4_init 82 = .ok (.aload_n 0, 1) := by decide +kernel
set_option maxRecDepth 20000 in
theorem dX4_init_83 : decode cX4_init 83 = .ok (.bipush 9, 2) := by decide +kernel
set_option maxRecDepth 20000 in
theorem dX4_init_85 : decode cX4_init 85 = .ok (.newarray .int, 2) := by decide +kernel
set_option maxRecDepth 20000 in
theorem dX4_init_87 : decode cX4_init 87 = .ok (.putfield 43, 3) := by decide +kernel
set_option maxRecDepth 20000 in
theorem dX4_init_90 : decode cX4_init 90 = .ok (.aload_n 0, 1) := by decide +kernel
set_option maxRecDepth 20000 in
theorem dX4_init_91 : decode cX4_init 91 = .ok (.bipush 9, 2) := by decide +kernel
set_option maxRecDepth 20000 in
theorem dX4_init_93 : decode cX4_init 93 = .ok (.newarray .int, 2) := by decide +kernel
set_option maxRecDepth 20000 in
theorem dX4_init_95 : decode cX4_init 95 = .ok (.putfield 46, 3) := by decide +kernel
set_option maxRecDepth 20000 in
theorem dX4_init_98 : decode cX4_init 98 = .ok (.aload_n 0, 1) := by decide +kernel
set_option maxRecDepth 20000 in
theorem dX4_init_99 : decode cX4_init 99 = .ok (.iconst (-1), 1) := by decide +kernel
set_option maxRecDepth 20000 in
theorem dX4_init_100 : decode cX4_init 100 = .ok (.putfield 49, 3) := by decide +kernel
set_option maxRecDepth 20000 in
theorem dX4_init_103 : decode cX4_init 103 = .ok (.return_, 1) := by decide +kernel
set_option maxHeartbeats 4000000 in
set_option maxRecDepth 100000 in
theorem c_X4_init : ConA mu_X4_init [.ref 0, .ref 1000, .ref 1001] [.inr (4, [.null, .null, .null, .int 0, .int 0, .int 0, .null, .null, .null, .null, .null, .int 0, .null, .null, .null, .null])] wi_X4 := by
  refine ConA.mk (show plainName RX4 = true by decide +kernel) (leb rfl) (roHi.nil rfl rfl) (leb rfl) rfl (fun κ ω A ad δ => ?_)
  change GG mu_X4_init κ ω A (QA κ ω A ad 1 wi_X4 mu_X4_init.2.2.2.2.1.cells mu_X4_init.2.2.2.2.1.slots) (ext ad 1 δ) 0 0 0 [.inr (4, [.null, .null, .null, .int 0, .int 0, .int 0, .null, .null, .null, .null, .null, .int 0, .null, .null, .null, .null])] [some (.ref 0), some (.ref 1000), some (.ref 1001)] []
  refine G_aload_n dX4_init_0 rfl rfl ?_
  refine G_objInit dX4_init_1 mo_X4_3 oi_i oi_c (leb rfl) (leb rfl) ?_
  refine G_aload_n dX4_init_4 rfl rfl ?_
  refine G_aload_n dX4_init_5 rfl rfl ?_
  refine G_putF (w2 := [.inr (4, [.ref 1000, .null, .null, .int 0, .int 0, .int 0, .null, .null, .null, .null, .null, .int 0, .null, .null, .null, .null])]) F_X4_9 rfl (fun _ _ _ h => by cases h; rfl) dX4_init_6 rfl rfl rfl (ltb rfl) rfl ?_
  refine G_aload_n dX4_init_9 rfl rfl ?_
  refine G_aload_n dX4_init_10 rfl rfl ?_
  refine G_putF (w2 := [.inr (4, [.ref 1000, .null, .null, .int 0, .int 0, .int 0, .null, .null, .null, .null, .null, .int 0, .ref 1001, .null, .null, .null])]) F_X4_15 rfl (fun _ _ _ h => by cases h; rfl) dX4_init_11 rfl rfl rfl (ltb rfl) rfl ?_
  refine G_aload_n dX4_init_14 rfl rfl ?_
  refine G_bipush 56 dX4_init_15 (by decide) ?_
  refine G_newarr (t := 0) (a0 := (56, .inl (fun _ => 0))) (L := 1) (N := 56) dX4_init_17 rfl aw_0 rfl ra_int (fun _ => rfl) (by decide) (by decide) (lel (a' := 224) (b' := 536870912) rfl rfl rfl) (lel (a' := 1) (b' := 10) rfl rfl rfl) (lel (a' := 56) (b' := 10709) rfl rfl rfl) (roHi.nil rfl rfl) (leb rfl) rfl (fun δ => ?_)
  change GG _ _ _ _ _ _ 1 56 _ [.inr (4, [.ref 1000, .null, .null, .int 0, .int 0, .int 0, .null, .null, .null, .null, .null, .int 0, .ref 1001, .null, .null, .null]), .inl (0, 56, .inl (fun _ => 0))] [some (.ref 0), some (.ref 1000), some (.ref 1001)] [.ref 1, .ref 0]
  refine G_putF (w2 := [.inr (4, [.ref 1000, .ref 1, .null, .int 0, .int 0, .int 0, .null, .null, .null, .null, .null, .int 0, .ref 1001, .null, .null, .null]), .inl (0, 56, .inl (fun _ => 0))]) F_X4_19 rfl (fun _ _ _ h => by cases h; rfl) dX4_init_19 rfl rfl rfl (ltb rfl) rfl ?_
  refine G_aload_n dX4_init_22 rfl rfl ?_
  refine G_bipush 56 dX4_init_23 (by decide) ?_
  refine G_newarr (t := 0) (a0 := (56, .inl (fun _ => 0))) (L := 2) (N := 56) dX4_init_25 rfl aw_0 rfl ra_int (fun _ => rfl) (by decide) (by decide) (lel (a' := 224) (b' := 536870912) rfl rfl rfl) (lel (a' := 2) (b' := 10) rfl rfl rfl) (lel (a' := 112) (b' := 10709) rfl rfl rfl) (roHi.nil rfl rfl) (leb rfl) rfl (fun δ => ?_)
  change GG _ _ _ _ _ _ 2 112 _ [.inr (4, [.ref 1000, .ref 1, .null, .int 0, .int 0, .int 0, .null, .null, .null, .null, .null, .int 0, .ref 1001, .null, .null, .null]), .inl (0, 56, .inl (fun _ => 0)), .inl (0, 56, .inl (fun _ => 0))] [some (.ref 0), some (.ref 1000), some (.ref 1001)] [.ref 2, .ref 0]
  refine G_putF (w2 := [.inr (4, [.ref 1000, .ref 1, .ref 2, .int 0, .int 0, .int 0, .null, .null, .null, .null, .null, .int 0, .ref 1001, .null, .null, .null]), .inl (0, 56, .inl (fun _ => 0)), .inl (0, 56, .inl (fun _ => 0))]) F_X4_22 rfl (fun _ _ _ h => by cases h; rfl) dX4_init_27 rfl rfl rfl (ltb rfl) rfl ?_
  refine G_aload_n dX4_init_30 rfl rfl ?_
  refine G_sipush 1056 dX4_init_31 (by decide) ?_
  refine G_newarr (t := 0) (a0 := (1056, .inl (fun _ => 0))) (L := 3) (N := 1056) dX4_init_34 rfl aw_0 rfl ra_int (fun _ => rfl) (by decide) (by decide) (lel (a' := 4224) (b' := 536870912) rfl rfl rfl) (lel (a' := 3) (b' := 10) rfl rfl rfl) (lel (a' := 1168) (b' := 10709) rfl rfl rfl) (roHi.nil rfl rfl) (leb rfl) rfl (fun δ => ?_)
  change GG _ _ _ _ _ _ 3 1168 _ [.inr (4, [.ref 1000, .ref 1, .ref 2, .int 0, .int 0, .int 0, .null, .null, .null, .null, .null, .int 0, .ref 1001, .null, .null, .null]), .inl (0, 56, .inl (fun _ => 0)), .inl (0, 56, .inl (fun _ => 0)), .inl (0, 1056, .inl (fun _ => 0))] [some (.ref 0), some (.ref 1000), some (.ref 1001)] [.ref 3, .ref 0]
  refine G_putF (w2 := [.inr (4, [.ref 1000, .ref 1, .ref 2, .int 0, .int 0, .int 0, .ref 3, .null, .null, .null, .null, .int 0, .ref 1001, .null, .null, .null]), .inl (0, 56, .inl (fun _ => 0)), .inl (0, 56, .inl (fun _ => 0)), .inl (0, 1056, .inl (fun _ => 0))]) F_X4_25 rfl (fun _ _ _ h => by cases h; rfl) dX4_init_36 rfl rfl rfl (ltb rfl) rfl ?_
  refine G_aload_n dX4_init_39 rfl rfl ?_
  refine G_sipush 1056 dX4_init_40 (by decide) ?_
  refine G_newarr (t := 0) (a0 := (1056, .inl (fun _ => 0))) (L := 4) (N := 1056) dX4_init_43 rfl aw_0 rfl ra_int (fun _ => rfl) (by decide) (by decide) (lel (a' := 4224) (b' := 536870912) rfl rfl rfl) (lel (a' := 4) (b' := 10) rfl rfl rfl) (lel (a' := 2224) (b' := 10709) rfl rfl rfl) (roHi.nil rfl rfl) (leb rfl) rfl (fun δ => ?_)
  change GG _ _ _ _ _ _ 4 2224 _ [.inr (4, [.ref 1000, .ref 1, .ref 2, .int 0, .int 0, .int 0, .ref 3, .null, .null, .null, .null, .int 0, .ref 1001, .null, .null, .null]), .inl (0, 56, .inl (fun _ => 0)), .inl (0, 56, .inl (fun _ => 0)), .inl (0, 1056, .inl (fun _ => 0)), .inl (0, 1056, .inl (fun _ => 0))] [some (.ref 0), some (.ref 1000), some (.ref 1001)] [.ref 4, .ref 0]
  refine G_putF (w2 := [.inr (4, [.ref 1000, .ref 1, .ref 2, .int 0, .int 0, .int 0, .ref 3, .ref 4, .null, .null, .null, .int 0, .ref 1001, .null, .null, .null]), .inl (0, 56, .inl (fun _ => 0)), .inl (0, 56, .inl (fun _ => 0)), .inl (0, 1056, .inl (fun _ => 0)), .inl (0, 1056, .inl (fun _ => 0))]) F_X4_28 rfl (fun _ _ _ h => by cases h; rfl) dX4_init_45 rfl rfl rfl (ltb rfl) rfl ?_
  refine G_aload_n dX4_init_48 rfl rfl ?_
  refine G_sipush 1056 dX4_init_49 (by decide) ?_
  refine G_newarr (t := 0) (a0 := (1056, .inl (fun _ => 0))) (L := 5) (N := 1056) dX4_init_52 rfl aw_0 rfl ra_int (fun _ => rfl) (by decide) (by decide) (lel (a' := 4224) (b' := 536870912) rfl rfl rfl) (lel (a' := 5) (b' := 10) rfl rfl rfl) (lel (a' := 3280) (b' := 10709) rfl rfl rfl) (roHi.nil rfl rfl) (leb rfl) rfl (fun δ => ?_)
  change GG _ _ _ _ _ _ 5 3280 _ [.inr (4, [.ref 1000, .ref 1, .ref 2, .int 0, .int 0, .int 0, .ref 3, .ref 4, .null, .null, .null, .int 0, .ref 1001, .null, .null, .null]), .inl (0, 56, .inl (fun _ => 0)), .inl (0, 56, .inl (fun _ => 0)), .inl (0, 1056, .inl (fun _ => 0)), .inl (0, 1056, .inl (fun _ => 0)), .inl (0, 1056, .inl (fun _ => 0))] [some (.ref 0), some (.ref 1000), some (.ref 1001)] [.ref 5, .ref 0]
  refine G_putF (w2 := [.inr (4, [.ref 1000, .ref 1, .ref 2, .int 0, .int 0, .int 0, .ref 3, .ref 4, .ref 5, .null, .null, .int 0, .ref 1001, .null, .null, .null]), .inl (0, 56, .inl (fun _ => 0)), .inl (0, 56, .inl (fun _ => 0)), .inl (0, 1056, .inl (fun _ => 0)), .inl (0, 1056, .inl (fun _ => 0)), .inl (0, 1056, .inl (fun _ => 0))]) F_X4_31 rfl (fun _ _ _ h => by cases h; rfl) dX4_init_54 rfl rfl rfl (ltb rfl) rfl ?_
  refine G_aload_n dX4_init_57 rfl rfl ?_
  refine G_sipush 7392 dX4_init_58 (by decide) ?_
  refine G_newarr (t := 0) (a0 := (7392, .inl (fun _ => 0))) (L := 6) (N := 7392) dX4_init_61 rfl aw_0 rfl ra_int (fun _ => rfl) (by decide) (by decide) (lel (a' := 29568) (b' := 536870912) rfl rfl rfl) (lel (a' := 6) (b' := 10) rfl rfl rfl) (lel (a' := 10672) (b' := 10709) rfl rfl rfl) (roHi.nil rfl rfl) (leb rfl) rfl (fun δ => ?_)
  change GG _ _ _ _ _ _ 6 10672 _ [.inr (4, [.ref 1000, .ref 1, .ref 2, .int 0, .int 0, .int 0, .ref 3, .ref 4, .ref 5, .null, .null, .int 0, .ref 1001, .null, .null, .null]), .inl (0, 56, .inl (fun _ => 0)), .inl (0, 56, .inl (fun _ => 0)), .inl (0, 1056, .inl (fun _ => 0)), .inl (0, 1056, .inl (fun _ => 0)), .inl (0, 1056, .inl (fun _ => 0)), .inl (0, 7392, .inl (fun _ => 0))] [some (.ref 0), some (.ref 1000), some (.ref 1001)] [.ref 6, .ref 0]
  refine G_putF (w2 := [.inr (4, [.ref 1000, .ref 1, .ref 2, .int 0, .int 0, .int 0, .ref 3, .ref 4, .ref 5, .ref 6, .null, .int 0, .ref 1001, .null, .null, .null]), .inl (0, 56, .inl (fun _ => 0)), .inl (0, 56, .inl (fun _ => 0)), .inl (0, 1056, .inl (fun _ => 0)), .inl (0, 1056, .inl (fun _ => 0)), .inl (0, 1056, .inl (fun _ => 0)), .inl (0, 7392, .inl (fun _ => 0))]) F_X4_34 rfl (fun _ _ _ h => by cases h; rfl) dX4_init_63 rfl rfl rfl (ltb rfl) rfl ?_
  refine G_aload_n dX4_init_66 rfl rfl ?_
  refine G_bipush 10 dX4_init_67 (by decide) ?_
  refine G_newarr (t := 0) (a0 := (10, .inl (fun _ => 0))) (L := 7) (N := 10) dX4_init_69 rfl aw_0 rfl ra_int (fun _ => rfl) (by decide) (by decide) (lel (a' := 40) (b' := 536870912) rfl rfl rfl) (lel (a' := 7) (b' := 10) rfl rfl rfl) (lel (a' := 10682) (b' := 10709) rfl rfl rfl) (roHi.nil rfl rfl) (leb rfl) rfl (fun δ => ?_)
  change GG _ _ _ _ _ _ 7 10682 _ [.inr (4, [.ref 1000, .ref 1, .ref 2, .int 0, .int 0, .int 0, .ref 3, .ref 4, .ref 5, .ref 6, .null, .int 0, .ref 1001, .null, .null, .null]), .inl (0, 56, .inl (fun _ => 0)), .inl (0, 56, .inl (fun _ => 0)), .inl (0, 1056, .inl (fun _ => 0)), .inl (0, 1056, .inl (fun _ => 0)), .inl (0, 1056, .inl (fun _ => 0)), .inl (0, 7392, .inl (fun _ => 0)), .inl (0, 10, .inl (fun _ => 0))] [some (.ref 0), some (.ref 1000), some (.ref 1001)] [.ref 7, .ref 0]
  refine G_putF (w2 := [.inr (4, [.ref 1000, .ref 1, .ref 2, .int 0, .int 0, .int 0, .ref 3, .ref 4, .ref 5, .ref 6, .ref 7, .int 0, .ref 1001, .null, .null, .null]), .inl (0, 56, .inl (fun _ => 0)), .inl (0, 56, .inl (fun _ => 0)), .inl (0, 1056, .inl (fun _ => 0)), .inl (0, 1056, .inl (fun _ => 0)), .inl (0, 1056, .inl (fun _ => 0)), .inl (0, 7392, .inl (fun _ => 0)), .inl (0, 10, .inl (fun _ => 0))]) F_X4_37 rfl (fun _ _ _ h => by cases h; rfl) dX4_init_71 rfl rfl rfl (ltb rfl) rfl ?_
  refine G_aload_n dX4_init_74 rfl rfl ?_
  refine G_bipush 9 dX4_init_75 (by decide) ?_
  refine G_newarr (t := 0) (a0 := (9, .inl (fun _ => 0))) (L := 8) (N := 9) dX4_init_77 rfl aw_0 rfl ra_int (fun _ => rfl) (by decide) (by decide) (lel (a' := 36) (b' := 536870912) rfl rfl rfl) (lel (a' := 8) (b' := 10) rfl rfl rfl) (lel (a' := 10691) (b' := 10709) rfl rfl rfl) (roHi.nil rfl rfl) (leb rfl) rfl (fun δ => ?_)
  change GG _ _ _ _ _ _ 8 10691 _ [.inr (4, [.ref 1000, .ref 1, .ref 2, .int 0, .int 0, .int 0, .ref 3, .ref 4, .ref 5, .ref 6, .ref 7, .int 0, .ref 1001, .null, .null, .null]), .inl (0, 56, .inl (fun _ => 0)), .inl (0, 56, .inl (fun _ => 0)), .inl (0, 1056, .inl (fun _ => 0)), .inl (0, 1056, .inl (fun _ => 0)), .inl (0, 1056, .inl (fun _ => 0)), .inl (0, 7392, .inl (fun _ => 0)), .inl (0, 10, .inl (fun _ => 0)), .inl (0, 9, .inl (fun _ => 0))] [some (.ref 0), some (.ref 1000), some (.ref 1001)] [.ref 8, .ref 0]
  refine G_putF (w2 := [.inr (4, [.ref 1000, .ref 1, .ref 2, .int 0, .int 0, .int 0, .ref 3, .ref 4, .ref 5, .ref 6, .ref 7, .int 0, .ref 1001, .ref 8, .null, .null]), .inl (0, 56, .inl (fun _ => 0)), .inl (0, 56, .inl (fun _ => 0)), .inl (0, 1056, .inl (fun _ => 0)), .inl (0, 1056, .inl (fun _ => 0)), .inl (0, 1056, .inl (fun _ => 0)), .inl (0, 7392, .inl (fun _ => 0)), .inl (0, 10, .inl (fun _ => 0)), .inl (0, 9, .inl (fun _ => 0))]) F_X4_40 rfl (fun _ _ _ h => by cases h; rfl) dX4_init_79 rfl rfl rfl (ltb rfl) rfl ?_
  refine G_aload_n dX4_init_82 rfl rfl ?_
  refine G_bipush 9 dX4_init_83 (by decide) ?_
  refine G_newarr (t := 0) (a0 := (9, .inl (fun _ => 0))) (L := 9) (N := 9) dX4_init_85 rfl aw_0 rfl ra_int (fun _ => rfl) (by decide) (by decide) (lel (a' := 36) (b' := 536870912) rfl rfl rfl) (lel (a' := 9) (b' := 10) rfl rfl rfl) (lel (a' := 10700) (b' := 10709) rfl rfl rfl) (roHi.nil rfl rfl) (leb rfl) rfl (fun δ => ?_)
  change GG _ _ _ _ _ _ 9 10700 _ [.inr (4, [.ref 1000, .ref 1, .ref 2, .int 0, .int 0, .int 0, .ref 3, .ref 4, .ref 5, .ref 6, .ref 7, .int 0, .ref 1001, .ref 8, .null, .null]), .inl (0, 56, .inl (fun _ => 0)), .inl (0, 56, .inl (fun _ => 0)), .inl (0, 1056, .inl (fun _ => 0)), .inl (0, 1056, .inl (fun _ => 0)), .inl (0, 1056, .inl (fun _ => 0)), .inl (0, 7392, .inl (fun _ => 0)), .inl (0, 10, .inl (fun _ => 0)), .inl (0, 9, .inl (fun _ => 0)), .inl (0, 9, .inl (fun _ => 0))] [some (.ref 0), some (.ref 1000), some (.ref 1001)] [.ref 9, .ref 0]
  refine G_putF (w2 := [.inr (4, [.ref 1000, .ref 1, .ref 2, .int 0, .int 0, .int 0, .ref 3, .ref 4, .ref 5, .ref 6, .ref 7, .int 0, .ref 1001, .ref 8, .ref 9, .null]), .inl (0, 56, .inl (fun _ => 0)), .inl (0, 56, .inl (fun _ => 0)), .inl (0, 1056, .inl (fun _ => 0)), .inl (0, 1056, .inl (fun _ => 0)), .inl (0, 1056, .inl (fun _ => 0)), .inl (0, 7392, .inl (fun _ => 0)), .inl (0, 10, .inl (fun _ => 0)), .inl (0, 9, .inl (fun _ => 0)), .inl (0, 9, .inl (fun _ => 0))]) F_X4_43 rfl (fun _ _ _ h => by cases h; rfl) dX4_init_87 rfl rfl rfl (ltb rfl) rfl ?_
  refine G_aload_n dX4_init_90 rfl rfl ?_
  refine G_bipush 9 dX4_init_91 (by decide) ?_
  refine G_newarr (t := 0) (a0 := (9, .inl (fun _ => 0))) (L := 10) (N := 9) dX4_init_93 rfl aw_0 rfl ra_int (fun _ => rfl) (by decide) (by decide) (lel (a' := 36) (b' := 536870912) rfl rfl rfl) (lel (a' := 10) (b' := 10) rfl rfl rfl) (lel (a' := 10709) (b' := 10709) rfl rfl rfl) (roHi.nil rfl rfl) (leb rfl) rfl (fun δ => ?_)
  change GG _ _ _ _ _ _ 10 10709 _ [.inr (4, [.ref 1000, .ref 1, .ref 2, .int 0, .int 0, .int 0, .ref 3, .ref 4, .ref 5, .ref 6, .ref 7, .int 0, .ref 1001, .ref 8, .ref 9, .null]), .inl (0, 56, .inl (fun _ => 0)), .inl (0, 56, .inl (fun _ => 0)), .inl (0, 1056, .inl (fun _ => 0)), .inl (0, 1056, .inl (fun _ => 0)), .inl (0, 1056, .inl (fun _ => 0)), .inl (0, 7392, .inl (fun _ => 0)), .inl (0, 10, .inl (fun _ => 0)), .inl (0, 9, .inl (fun _ => 0)), .inl (0, 9, .inl (fun _ => 0)), .inl (0, 9, .inl (fun _ => 0))] [some (.ref 0), some (.ref 1000), some (.ref 1001)] [.ref 10, .ref 0]
  refine G_putF (w2 := [.inr (4, [.ref 1000, .ref 1, .ref 2, .int 0, .int 0, .int 0, .ref 3, .ref 4, .ref 5, .ref 6, .ref 7, .int 0, .ref 1001, .ref 8, .ref 9, .ref 10]), .inl (0, 56, .inl (fun _ => 0)), .inl (0, 56, .inl (fun _ => 0)), .inl (0, 1056, .inl (fun _ => 0)), .inl (0, 1056, .inl (fun _ => 0)), .inl (0, 1056, .inl (fun _ => 0)), .inl (0, 7392, .inl (fun _ => 0)), .inl (0, 10, .inl (fun _ => 0)), .inl (0, 9, .inl (fun _ => 0)), .inl (0, 9, .inl (fun _ => 0)), .inl (0, 9, .inl (fun _ => 0))]) F_X4_46 rfl (fun _ _ _ h => by cases h; rfl) dX4_init_95 rfl rfl rfl (ltb rfl) rfl ?_
  refine G_aload_n dX4_init_98 rfl rfl ?_
  refine G_iconst (-1 : Int32) dX4_init_99 (by decide) ?_
  refine G_put (w2 := [.inr (4, [.ref 1000, .ref 1, .ref 2, .int (-1 : Int32), .int 0, .int 0, .ref 3, .ref 4, .ref 5, .ref 6, .ref 7, .int 0, .ref 1001, .ref 8, .ref 9, .ref 10]), .inl (0, 56, .inl (fun _ => 0)), .inl (0, 56, .inl (fun _ => 0)), .inl (0, 1056, .inl (fun _ => 0)), .inl (0, 1056, .inl (fun _ => 0)), .inl (0, 1056, .inl (fun _ => 0)), .inl (0, 7392, .inl (fun _ => 0)), .inl (0, 10, .inl (fun _ => 0)), .inl (0, 9, .inl (fun _ => 0)), .inl (0, 9, .inl (fun _ => 0)), .inl (0, 9, .inl (fun _ => 0))]) F_X4_49 dX4_init_100 rfl rfl rfl (ltb rfl) rfl ?_
  exact G_returnA dX4_init_103 rfl (lel (a' := 10) (b' := 10) rfl rfl rfl) (lel (a' := 10709) (b' := 10709) rfl rfl rfl)
abbrev mu_X5_init : KM := (yX5_init, cX5_init, 2, none, { frames := 1, cells := 1, slots := 8, locals := 12 }, [], [])
def wi_X5 : List mE := [.inr (5, [.ref 1000, .int 0, .ref 1, .int 0]), .inl (0, 8, .inl (fun _ => 0))]
theorem cwi_X5 : CWi mu_X5_init 1 := ⟨⟨all_of 123 (by decide +kernel) (by decide +kernel), all_of 4 (by decide +kernel) (by decide +kernel), by decide +kernel, by decide +kernel, by decide +kernel⟩, all_of 122 (by decide +kernel) (by decide +kernel), rfl, rfl⟩
set_option maxRecDepth 20000 in
theorem dX5_init_0 : decode cX5_init 0 = .ok (.aload_n 0, 1) := by decide +kernel
set_option maxRecDepth 20000 in
theorem dX5_init_1 : decode cX5_init 1 = .ok (.invokespecial 3, 3) := by decide +kernel
set_option maxRecDepth 20000 in
theorem dX5_init_4 : decode cX5_init 4 = .ok (.aload_n 0, 1) := by decide +kernel
set_option maxRecDepth 20000 in
theorem dX5_init_5 : decode cX5_init 5 = .ok (.aload_n 1, 1) := by decide +kernel
set_option maxRecDepth 20000 in
theorem dX5_init_6 : decode cX5_init 6 = .ok (.putfield 9, 3) := by decide +kernel
set_option maxRecDepth 20000 in
theorem dX5_init_9 : decode cX5_init 9 = .ok (.aload_n 0, 1) := by decide +kernel
set_option maxRecDepth 20000 in
theorem dX5_init_10 : decode cX5_init 10 = .ok (.bipush 8, 2) := by decide +kernel
set_option maxRecDepth 20000 in
theorem dX5_init_12 : decode cX5_init 12 = .ok (.newarray .int, 2) := by decide +kernel
set_option maxRecDepth 20000 in
theorem dX5_init_14 : decode cX5_init 14 = .ok (.putfield 15, 3) := by decide +kernel
set_option maxRecDepth 20000 in
theorem dX5_init_17 : decode cX5_init 17 = .ok (.return_, 1) := by decide +kernel
set_option maxHeartbeats 4000000 in
set_option maxRecDepth 100000 in
theorem c_X5_init : ConA mu_X5_init [.ref 0, .ref 1000] [.inr (5, [.null, .int 0, .null, .int 0])] wi_X5 := by
  refine ConA.mk (show plainName RX5 = true by decide +kernel) (leb rfl) (roHi.nil rfl rfl) (leb rfl) rfl (fun κ ω A ad δ => ?_)
  change GG mu_X5_init κ ω A (QA κ ω A ad 1 wi_X5 mu_X5_init.2.2.2.2.1.cells mu_X5_init.2.2.2.2.1.slots) (ext ad 1 δ) 0 0 0 [.inr (5, [.null, .int 0, .null, .int 0])] [some (.ref 0), some (.ref 1000)] []
  refine G_aload_n dX5_init_0 rfl rfl ?_
  refine G_objInit dX5_init_1 mo_X5_3 oi_i oi_c (leb rfl) (leb rfl) ?_
  refine G_aload_n dX5_init_4 rfl rfl ?_
  refine G_aload_n dX5_init_5 rfl rfl ?_
  refine G_putF (w2 := [.inr (5, [.ref 1000, .int 0, .null, .int 0])]) F_X5_9 rfl (fun _ _ _ h => by cases h; rfl) dX5_init_6 rfl rfl rfl (ltb rfl) rfl ?_
  refine G_aload_n dX5_init_9 rfl rfl ?_
  refine G_bipush 8 dX5_init_10 (by decide) ?_
  refine G_newarr (t := 0) (a0 := (8, .inl (fun _ => 0))) (L := 1) (N := 8) dX5_init_12 rfl aw_0 rfl ra_int (fun _ => rfl) (by decide) (by decide) (lel (a' := 32) (b' := 536870912) rfl rfl rfl) (lel (a' := 1) (b' := 1) rfl rfl rfl) (lel (a' := 8) (b' := 8) rfl rfl rfl) (roHi.nil rfl rfl) (leb rfl) rfl (fun δ => ?_)
  change GG _ _ _ _ _ _ 1 8 _ [.inr (5, [.ref 1000, .int 0, .null, .int 0]), .inl (0, 8, .inl (fun _ => 0))] [some (.ref 0), some (.ref 1000)] [.ref 1, .ref 0]
  refine G_putF (w2 := [.inr (5, [.ref 1000, .int 0, .ref 1, .int 0]), .inl (0, 8, .inl (fun _ => 0))]) F_X5_15 rfl (fun _ _ _ h => by cases h; rfl) dX5_init_14 rfl rfl rfl (ltb rfl) rfl ?_
  exact G_returnA dX5_init_17 rfl (lel (a' := 1) (b' := 1) rfl rfl rfl) (lel (a' := 8) (b' := 8) rfl rfl rfl)
abbrev mu_X6_init : KM := (yX6_init, cX6_init, 2, none, { frames := 1, cells := 5, slots := 38, locals := 12 }, [], [])
def wi_X6 : List mE := [.inr (6, [.ref 1000, .ref 1, .ref 2, .ref 3, .ref 4, .ref 5]), .inl (0, 8, .inl (fun _ => 0)), .inl (0, 8, .inl (fun _ => 0)), .inl (0, 8, .inl (fun _ => 0)), .inl (0, 8, .inl (fun _ => 0)), .inl (0, 6, .inl (fun _ => 0))]
theorem cwi_X6 : CWi mu_X6_init 1 := ⟨⟨all_of 143 (by decide +kernel) (by decide +kernel), all_of 5 (by decide +kernel) (by decide +kernel), by decide +kernel, by decide +kernel, by decide +kernel⟩, all_of 142 (by decide +kernel) (by decide +kernel), rfl, rfl⟩
set_option maxRecDepth 20000 in
theorem dX6_init_0 : decode cX6_init 0 = .ok (.aload_n 0, 1) := by decide +kernel
set_option maxRecDepth 20000 in
theorem dX6_init_1 : decode cX6_init 1 = .ok (.invokespecial 3, 3) := by decide +kernel
set_option maxRecDepth 20000 in
theorem dX6_init_4 : decode cX6_init 4 = .ok (.aload_n 0, 1) := by decide +kernel
set_option maxRecDepth 20000 in
theorem dX6_init_5 : decode cX6_init 5 = .ok (.aload_n 1, 1) := by decide +kernel
set_option maxRecDepth 20000 in
theorem dX6_init_6 : decode cX6_init 6 = .ok (.putfield 9, 3) := by decide +kernel
set_option maxRecDepth 20000 in
theorem dX6_init_9 : decode cX6_init 9 = .ok (.aload_n 0, 1) := by decide +kernel
set_option maxRecDepth 20000 in
theorem dX6_init_10 : decode cX6_init 10 = .ok (.bipush 8, 2) := by decide +kernel
set_option maxRecDepth 20000 in
theorem dX6_init_12 : decode cX6_init 12 = .ok (.newarray .int, 2) := by decide +kernel
set_option maxRecDepth 20000 in
theorem dX6_init_14 : decode cX6_init 14 = .ok (.putfield 15, 3) := by decide +kernel
set_option maxRecDepth 20000 in
theorem dX6_init_17 : decode cX6_init 17 = .ok (.aload_n 0, 1) := by decide +kernel
set_option maxRecDepth 20000 in
theorem dX6_init_18 : decode cX6_init 18 = .ok (.bipush 8, 2) := by decide +kernel
set_option maxRecDepth 20000 in
theorem dX6_init_20 : decode cX6_init 20 = .ok (.newarray .int, 2) := by decide +kernel
set_option maxRecDepth 20000 in
theorem dX6_init_22 : decode cX6_init 22 = .ok (.putfield 19, 3) := by decide +kernel
set_option maxRecDepth 20000 in
theorem dX6_init_25 : decode cX6_init 25 = .ok (.aload_n 0, 1) := by decide +kernel
set_option maxRecDepth 20000 in
theorem dX6_init_26 : decode cX6_init 26 = .ok (.bipush 8, 2) := by decide +kernel
set_option maxRecDepth 20000 in
theorem dX6_init_28 : decode cX6_init 28 = .ok (.newarray .int, 2) := by decide +kernel
set_option maxRecDepth 20000 in
theorem dX6_init_30 : decode cX6_init 30 = .ok (.putfield 22, 3) := by decide +kernel
set_option maxRecDepth 20000 in
theorem dX6_init_33 : decode cX6_init 33 = .ok (.aload_n 0, 1) := by decide +kernel
set_option maxRecDepth 20000 in
theorem dX6_init_34 : decode cX6_init 34 = .ok (.bipush 8, 2) := by decide +kernel
set_option maxRecDepth 20000 in
theorem dX6_init_36 : decode cX6_init 36 = .ok (.newarray .int, 2) := by decide +kernel
set_option maxRecDepth 20000 in
theorem dX6_init_38 : decode cX6_init 38 = .ok (.putfield 25, 3) := by decide +kernel
set_option maxRecDepth 20000 in
theorem dX6_init_41 : decode cX6_init 41 = .ok (.aload_n 0, 1) := by decide +kernel
set_option maxRecDepth 20000 in
theorem dX6_init_42 : decode cX6_init 42 = .ok (.bipush 6, 2) := by decide +kernel
set_option maxRecDepth 20000 in
theorem dX6_init_44 : decode cX6_init 44 = .ok (.newarray .int, 2) := by decide +kernel
set_option maxRecDepth 20000 in
theorem dX6_init_46 : decode cX6_init 46 = .ok (.putfield 28, 3) := by decide +kernel
set_option maxRecDepth 20000 in
theorem dX6_init_49 : decode cX6_init 49 = .ok (.return_, 1) := by decide +kernel
set_option maxHeartbeats 4000000 in
set_option maxRecDepth 100000 in
theorem c_X6_init : ConA mu_X6_init [.ref 0, .ref 1000] [.inr (6, [.null, .null, .null, .null, .null, .null])] wi_X6 := by
  refine ConA.mk (show plainName RX6 = true by decide +kernel) (leb rfl) (roHi.nil rfl rfl) (leb rfl) rfl (fun κ ω A ad δ => ?_)
  change GG mu_X6_init κ ω A (QA κ ω A ad 1 wi_X6 mu_X6_init.2.2.2.2.1.cells mu_X6_init.2.2.2.2.1.slots) (ext ad 1 δ) 0 0 0 [.inr (6, [.null, .null, .null, .null, .null, .null])] [some (.ref 0), some (.ref 1000)] []
  refine G_aload_n dX6_init_0 rfl rfl ?_
  refine G_objInit dX6_init_1 mo_X6_3 oi_i oi_c (leb rfl) (leb rfl) ?_
  refine G_aload_n dX6_init_4 rfl rfl ?_
  refine G_aload_n dX6_init_5 rfl rfl ?_
  refine G_putF (w2 := [.inr (6, [.ref 1000, .null, .null, .null, .null, .null])]) F_X6_9 rfl (fun _ _ _ h => by cases h; rfl) dX6_init_6 rfl rfl rfl (ltb rfl) rfl ?_
  refine G_aload_n dX6_init_9 rfl rfl ?_
  refine G_bipush 8 dX6_init_10 (by decide) ?_
  refine G_newarr (t := 0) (a0 := (8, .inl (fun _ => 0))) (L := 1) (N := 8) dX6_init_12 rfl aw_0 rfl ra_int (fun _ => rfl) (by decide) (by decide) (lel (a' := 32) (b' := 536870912) rfl rfl rfl) (lel (a' := 1) (b' := 5) rfl rfl rfl) (lel (a' := 8) (b' := 38) rfl rfl rfl) (roHi.nil rfl rfl) (leb rfl) rfl (fun δ => ?_)
  change GG _ _ _ _ _ _ 1 8 _ [.inr (6, [.ref 1000, .null, .null, .null, .null, .null]), .inl (0, 8, .inl (fun _ => 0))] [some (.ref 0), some (.ref 1000)] [.ref 1, .ref 0]
  refine G_putF (w2 := [.inr (6, [.ref 1000, .ref 1, .null, .null, .null, .null]), .inl (0, 8, .inl (fun _ => 0))]) F_X6_15 rfl (fun _ _ _ h => by cases h; rfl) dX6_init_14 rfl rfl rfl (ltb rfl) rfl ?_
  refine G_aload_n dX6_init_17 rfl rfl ?_
  refine G_bipush 8 dX6_init_18 (by decide) ?_
  refine G_newarr (t := 0) (a0 := (8, .inl (fun _ => 0))) (L := 2) (N := 8) dX6_init_20 rfl aw_0 rfl ra_int (fun _ => rfl) (by decide) (by decide) (lel (a' := 32) (b' := 536870912) rfl rfl rfl) (lel (a' := 2) (b' := 5) rfl rfl rfl) (lel (a' := 16) (b' := 38) rfl rfl rfl) (roHi.nil rfl rfl) (leb rfl) rfl (fun δ => ?_)
  change GG _ _ _ _ _ _ 2 16 _ [.inr (6, [.ref 1000, .ref 1, .null, .null, .null, .null]), .inl (0, 8, .inl (fun _ => 0)), .inl (0, 8, .inl (fun _ => 0))] [some (.ref 0), some (.ref 1000)] [.ref 2, .ref 0]
  refine G_putF (w2 := [.inr (6, [.ref 1000, .ref 1, .ref 2, .null, .null, .null]), .inl (0, 8, .inl (fun _ => 0)), .inl (0, 8, .inl (fun _ => 0))]) F_X6_19 rfl (fun _ _ _ h => by cases h; rfl) dX6_init_22 rfl rfl rfl (ltb rfl) rfl ?_
  refine G_aload_n dX6_init_25 rfl rfl ?_
  refine G_bipush 8 dX6_init_26 (by decide) ?_
  refine G_newarr (t := 0) (a0 := (8, .inl (fun _ => 0))) (L := 3) (N := 8) dX6_init_28 rfl aw_0 rfl ra_int (fun _ => rfl) (by decide) (by decide) (lel (a' := 32) (b' := 536870912) rfl rfl rfl) (lel (a' := 3) (b' := 5) rfl rfl rfl) (lel (a' := 24) (b' := 38) rfl rfl rfl) (roHi.nil rfl rfl) (leb rfl) rfl (fun δ => ?_)
  change GG _ _ _ _ _ _ 3 24 _ [.inr (6, [.ref 1000, .ref 1, .ref 2, .null, .null, .null]), .inl (0, 8, .inl (fun _ => 0)), .inl (0, 8, .inl (fun _ => 0)), .inl (0, 8, .inl (fun _ => 0))] [some (.ref 0), some (.ref 1000)] [.ref 3, .ref 0]
  refine G_putF (w2 := [.inr (6, [.ref 1000, .ref 1, .ref 2, .ref 3, .null, .null]), .inl (0, 8, .inl (fun _ => 0)), .inl (0, 8, .inl (fun _ => 0)), .inl (0, 8, .inl (fun _ => 0))]) F_X6_22 rfl (fun _ _ _ h => by cases h; rfl) dX6_init_30 rfl rfl rfl (ltb rfl) rfl ?_
  refine G_aload_n dX6_init_33 rfl rfl ?_
  refine G_bipush 8 dX6_init_34 (by decide) ?_
  refine G_newarr (t := 0) (a0 := (8, .inl (fun _ => 0))) (L := 4) (N := 8) dX6_init_36 rfl aw_0 rfl ra_int (fun _ => rfl) (by decide) (by decide) (lel (a' := 32) (b' := 536870912) rfl rfl rfl) (lel (a' := 4) (b' := 5) rfl rfl rfl) (lel (a' := 32) (b' := 38) rfl rfl rfl) (roHi.nil rfl rfl) (leb rfl) rfl (fun δ => ?_)
  change GG _ _ _ _ _ _ 4 32 _ [.inr (6, [.ref 1000, .ref 1, .ref 2, .ref 3, .null, .null]), .inl (0, 8, .inl (fun _ => 0)), .inl (0, 8, .inl (fun _ => 0)), .inl (0, 8, .inl (fun _ => 0)), .inl (0, 8, .inl (fun _ => 0))] [some (.ref 0), some (.ref 1000)] [.ref 4, .ref 0]
  refine G_putF (w2 := [.inr (6, [.ref 1000, .ref 1, .ref 2, .ref 3, .ref 4, .null]), .inl (0, 8, .inl (fun _ => 0)), .inl (0, 8, .inl (fun _ => 0)), .inl (0, 8, .inl (fun _ => 0)), .inl (0, 8, .inl (fun _ => 0))]) F_X6_25 rfl (fun _ _ _ h => by cases h; rfl) dX6_init_38 rfl rfl rfl (ltb rfl) rfl ?_
  refine G_aload_n dX6_init_41 rfl rfl ?_
  refine G_bipush 6 dX6_init_42 (by decide) ?_
  refine G_newarr (t := 0) (a0 := (6, .inl (fun _ => 0))) (L := 5) (N := 6) dX6_init_44 rfl aw_0 rfl ra_int (fun _ => rfl) (by decide) (by decide) (lel (a' := 24) (b' := 536870912) rfl rfl rfl) (lel (a' := 5) (b' := 5) rfl rfl rfl) (lel (a' := 38) (b' := 38) rfl rfl rfl) (roHi.nil rfl rfl) (leb rfl) rfl (fun δ => ?_)
  change GG _ _ _ _ _ _ 5 38 _ [.inr (6, [.ref 1000, .ref 1, .ref 2, .ref 3, .ref 4, .null]), .inl (0, 8, .inl (fun _ => 0)), .inl (0, 8, .inl (fun _ => 0)), .inl (0, 8, .inl (fun _ => 0)), .inl (0, 8, .inl (fun _ => 0)), .inl (0, 6, .inl (fun _ => 0))] [some (.ref 0), some (.ref 1000)] [.ref 5, .ref 0]
  refine G_putF (w2 := [.inr (6, [.ref 1000, .ref 1, .ref 2, .ref 3, .ref 4, .ref 5]), .inl (0, 8, .inl (fun _ => 0)), .inl (0, 8, .inl (fun _ => 0)), .inl (0, 8, .inl (fun _ => 0)), .inl (0, 8, .inl (fun _ => 0)), .inl (0, 6, .inl (fun _ => 0))]) F_X6_28 rfl (fun _ _ _ h => by cases h; rfl) dX6_init_46 rfl rfl rfl (ltb rfl) rfl ?_
  exact G_returnA dX6_init_49 rfl (lel (a' := 5) (b' := 5) rfl rfl rfl) (lel (a' := 38) (b' := 38) rfl rfl rfl)
abbrev mu_X3_init : KM := (yX3_init, cX3_init, 2, none, { frames := 1, cells := 2, slots := 16, locals := 12 }, [], [])
def wi_X3 : List mE := [.inr (3, [.ref 1000, .ref 1, .int 0, .ref 2]), .inl (0, 8, .inl (fun _ => 0)), .inl (0, 8, .inl (fun _ => 0))]
theorem cwi_X3 : CWi mu_X3_init 1 := ⟨⟨all_of 170 (by decide +kernel) (by decide +kernel), all_of 6 (by decide +kernel) (by decide +kernel), by decide +kernel, by decide +kernel, by decide +kernel⟩, all_of 169 (by decide +kernel) (by decide +kernel), rfl, rfl⟩
set_option maxRecDepth 20000 in
theorem dX3_init_0 : decode cX3_init 0 = .ok (.aload_n 0, 1) := by decide +kernel
set_option maxRecDepth 20000 in
theorem dX3_init_1 : decode cX3_init 1 = .ok (.invokespecial 3, 3) := by decide +kernel
set_option maxRecDepth 20000 in
theorem dX3_init_4 : decode cX3_init 4 = .ok (.aload_n 0, 1) := by decide +kernel
set_option maxRecDepth 20000 in
theorem dX3_init_5 : decode cX3_init 5 = .ok (.aload_n 1, 1) := by decide +kernel
set_option maxRecDepth 20000 in
theorem dX3_init_6 : decode cX3_init 6 = .ok (.putfield 9, 3) := by decide +kernel
set_option maxRecDepth 20000 in
theorem dX3_init_9 : decode cX3_init 9 = .ok (.aload_n 0, 1) := by decide +kernel
set_option maxRecDepth 20000 in
theorem dX3_init_10 : decode cX3_init 10 = .ok (.bipush 8, 2) := by decide +kernel
set_option maxRecDepth 20000 in
theorem dX3_init_12 : decode cX3_init 12 = .ok (.newarray .int, 2) := by decide +kernel
set_option maxRecDepth 20000 in
theorem dX3_init_14 : decode cX3_init 14 = .ok (.putfield 15, 3) := by decide +kernel
set_option maxRecDepth 20000 in
theorem dX3_init_17 : decode cX3_init 17 = .ok (.aload_n 0, 1) := by decide +kernel
set_option maxRecDepth 20000 in
theorem dX3_init_18 : decode cX3_init 18 = .ok (.bipush 8, 2) := by decide +kernel
set_option maxRecDepth 20000 in
theorem dX3_init_20 : decode cX3_init 20 = .ok (.newarray .int, 2) := by decide +kernel
set_option maxRecDepth 20000 in
theorem dX3_init_22 : decode cX3_init 22 = .ok (.putfield 19, 3) := by decide +kernel
set_option maxRecDepth 20000 in
theorem dX3_init_25 : decode cX3_init 25 = .ok (.return_, 1) := by decide +kernel
set_option maxHeartbeats 4000000 in
set_option maxRecDepth 100000 in
theorem c_X3_init : ConA mu_X3_init [.ref 0, .ref 1000] [.inr (3, [.null, .null, .int 0, .null])] wi_X3 := by
  refine ConA.mk (show plainName RX3 = true by decide +kernel) (leb rfl) (roHi.nil rfl rfl) (leb rfl) rfl (fun κ ω A ad δ => ?_)
  change GG mu_X3_init κ ω A (QA κ ω A ad 1 wi_X3 mu_X3_init.2.2.2.2.1.cells mu_X3_init.2.2.2.2.1.slots) (ext ad 1 δ) 0 0 0 [.inr (3, [.null, .null, .int 0, .null])] [some (.ref 0), some (.ref 1000)] []
  refine G_aload_n dX3_init_0 rfl rfl ?_
  refine G_objInit dX3_init_1 mo_X3_3 oi_i oi_c (leb rfl) (leb rfl) ?_
  refine G_aload_n dX3_init_4 rfl rfl ?_
  refine G_aload_n dX3_init_5 rfl rfl ?_
  refine G_putF (w2 := [.inr (3, [.ref 1000, .null, .int 0, .null])]) F_X3_9 rfl (fun _ _ _ h => by cases h; rfl) dX3_init_6 rfl rfl rfl (ltb rfl) rfl ?_
  refine G_aload_n dX3_init_9 rfl rfl ?_
  refine G_bipush 8 dX3_init_10 (by decide) ?_
  refine G_newarr (t := 0) (a0 := (8, .inl (fun _ => 0))) (L := 1) (N := 8) dX3_init_12 rfl aw_0 rfl ra_int (fun _ => rfl) (by decide) (by decide) (lel (a' := 32) (b' := 536870912) rfl rfl rfl) (lel (a' := 1) (b' := 2) rfl rfl rfl) (lel (a' := 8) (b' := 16) rfl rfl rfl) (roHi.nil rfl rfl) (leb rfl) rfl (fun δ => ?_)
  change GG _ _ _ _ _ _ 1 8 _ [.inr (3, [.ref 1000, .null, .int 0, .null]), .inl (0, 8, .inl (fun _ => 0))] [some (.ref 0), some (.ref 1000)] [.ref 1, .ref 0]
  refine G_putF (w2 := [.inr (3, [.ref 1000, .ref 1, .int 0, .null]), .inl (0, 8, .inl (fun _ => 0))]) F_X3_15 rfl (fun _ _ _ h => by cases h; rfl) dX3_init_14 rfl rfl rfl (ltb rfl) rfl ?_
  refine G_aload_n dX3_init_17 rfl rfl ?_
  refine G_bipush 8 dX3_init_18 (by decide) ?_
  refine G_newarr (t := 0) (a0 := (8, .inl (fun _ => 0))) (L := 2) (N := 8) dX3_init_20 rfl aw_0 rfl ra_int (fun _ => rfl) (by decide) (by decide) (lel (a' := 32) (b' := 536870912) rfl rfl rfl) (lel (a' := 2) (b' := 2) rfl rfl rfl) (lel (a' := 16) (b' := 16) rfl rfl rfl) (roHi.nil rfl rfl) (leb rfl) rfl (fun δ => ?_)
  change GG _ _ _ _ _ _ 2 16 _ [.inr (3, [.ref 1000, .ref 1, .int 0, .null]), .inl (0, 8, .inl (fun _ => 0)), .inl (0, 8, .inl (fun _ => 0))] [some (.ref 0), some (.ref 1000)] [.ref 2, .ref 0]
  refine G_putF (w2 := [.inr (3, [.ref 1000, .ref 1, .int 0, .ref 2]), .inl (0, 8, .inl (fun _ => 0)), .inl (0, 8, .inl (fun _ => 0))]) F_X3_19 rfl (fun _ _ _ h => by cases h; rfl) dX3_init_22 rfl rfl rfl (ltb rfl) rfl ?_
  exact G_returnA dX3_init_25 rfl (lel (a' := 2) (b' := 2) rfl rfl rfl) (lel (a' := 16) (b' := 16) rfl rfl rfl)
abbrev mu_X2_init : KM := (yX2_init, cX2_init, 2, none, { frames := 1, cells := 3, slots := 4144, locals := 12 }, [], [])
def wi_X2 : List mE := [.inr (2, [.ref 1000, .ref 1, .int (-1 : Int32), .ref 2, .ref 3, .long 0, .int 0, .int 0]), .inl (0, 48, .inl (fun _ => 0)), .inl (1, 2048, .inr (.inl (fun _ => 0))), .inl (0, 2048, .inl (fun _ => 0))]
theorem cwi_X2 : CWi mu_X2_init 1 := ⟨⟨all_of 191 (by decide +kernel) (by decide +kernel), all_of 7 (by decide +kernel) (by decide +kernel), by decide +kernel, by decide +kernel, by decide +kernel⟩, all_of 190 (by decide +kernel) (by decide +kernel), rfl, rfl⟩
set_option maxRecDepth 20000 in
theorem dX2_init_0 : decode cX2_init 0 = .ok (.aload_n 0, 1) := by decide +kernel
set_option maxRecDepth 20000 in
theorem dX2_init_1 : decode cX2_init 1 = .ok (.invokespecial 3, 3) := by decide +kernel
set_option maxRecDepth 20000 in
theorem dX2_init_4 : decode cX2_init 4 = .ok (.aload_n 0, 1) := by decide +kernel
set_option maxRecDepth 20000 in
theorem dX2_init_5 : decode cX2_init 5 = .ok (.aload_n 1, 1) := by decide +kernel
set_option maxRecDepth 20000 in
theorem dX2_init_6 : decode cX2_init 6 = .ok (.putfield 9, 3) := by decide +kernel
set_option maxRecDepth 20000 in
theorem dX2_init_9 : decode cX2_init 9 = .ok (.aload_n 0, 1) := by decide +kernel
set_option maxRecDepth 20000 in
theorem dX2_init_10 : decode cX2_init 10 = .ok (.bipush 48, 2) := by decide +kernel
set_option maxRecDepth 20000 in
theorem dX2_init_12 : decode cX2_init 12 = .ok (.newarray .int, 2) := by decide +kernel
set_option maxRecDepth 20000 in
theorem dX2_init_14 : decode cX2_init 14 = .ok (.putfield 15, 3) := by decide +kernel
set_option maxRecDepth 20000 in
theorem dX2_init_17 : decode cX2_init 17 = .ok (.aload_n 0, 1) := by decide +kernel
set_option maxRecDepth 20000 in
theorem dX2_init_18 : decode cX2_init 18 = .ok (.sipush 2048, 3) := by decide +kernel
set_option maxRecDepth 20000 in
theorem dX2_init_21 : decode cX2_init 21 = .ok (.newarray .long, 2) := by decide +kernel
set_option maxRecDepth 20000 in
theorem dX2_init_23 : decode cX2_init 23 = .ok (.putfield 19, 3) := by decide +kernel
set_option maxRecDepth 20000 in
theorem dX2_init_26 : decode cX2_init 26 = .ok (.aload_n 0, 1) := by decide +kernel
set_option maxRecDepth 20000 in
theorem dX2_init_27 : decode cX2_init 27 = .ok (.sipush 2048, 3) := by decide +kernel
set_option maxRecDepth 20000 in
theorem dX2_init_30 : decode cX2_init 30 = .ok (.newarray .int, 2) := by decide +kernel
set_option maxRecDepth 20000 in
theorem dX2_init_32 : decode cX2_init 32 = .ok (.putfield 23, 3) := by decide +kernel
set_option maxRecDepth 20000 in
theorem dX2_init_35 : decode cX2_init 35 = .ok (.aload_n 0, 1) := by decide +kernel
set_option maxRecDepth 20000 in
theorem dX2_init_36 : decode cX2_init 36 = .ok (.iconst (-1), 1) := by decide +kernel
set_option maxRecDepth 20000 in
theorem dX2_init_37 : decode cX2_init 37 = .ok (.putfield 26, 3) := by decide +kernel
set_option maxRecDepth 20000 in
theorem dX2_init_40 : decode cX2_init 40 = .ok (.return_, 1) := by decide +kernel
set_option maxHeartbeats 4000000 in
set_option maxRecDepth 100000 in
theorem c_X2_init : ConA mu_X2_init [.ref 0, .ref 1000] [.inr (2, [.null, .null, .int 0, .null, .null, .long 0, .int 0, .int 0])] wi_X2 := by
  refine ConA.mk (show plainName RX2 = true by decide +kernel) (leb rfl) (roHi.nil rfl rfl) (leb rfl) rfl (fun κ ω A ad δ => ?_)
  change GG mu_X2_init κ ω A (QA κ ω A ad 1 wi_X2 mu_X2_init.2.2.2.2.1.cells mu_X2_init.2.2.2.2.1.slots) (ext ad 1 δ) 0 0 0 [.inr (2, [.null, .null, .int 0, .null, .null, .long 0, .int 0, .int 0])] [some (.ref 0), some (.ref 1000)] []
  refine G_aload_n dX2_init_0 rfl rfl ?_
  refine G_objInit dX2_init_1 mo_X2_3 oi_i oi_c (leb rfl) (leb rfl) ?_
  refine G_aload_n dX2_init_4 rfl rfl ?_
  refine G_aload_n dX2_init_5 rfl rfl ?_
  refine G_putF (w2 := [.inr (2, [.ref 1000, .null, .int 0, .null, .null, .long 0, .int 0, .int 0])]) F_X2_9 rfl (fun _ _ _ h => by cases h; rfl) dX2_init_6 rfl rfl rfl (ltb rfl) rfl ?_
  refine G_aload_n dX2_init_9 rfl rfl ?_
  refine G_bipush 48 dX2_init_10 (by decide) ?_
  refine G_newarr (t := 0) (a0 := (48, .inl (fun _ => 0))) (L := 1) (N := 48) dX2_init_12 rfl aw_0 rfl ra_int (fun _ => rfl) (by decide) (by decide) (lel (a' := 192) (b' := 536870912) rfl rfl rfl) (lel (a' := 1) (b' := 3) rfl rfl rfl) (lel (a' := 48) (b' := 4144) rfl rfl rfl) (roHi.nil rfl rfl) (leb rfl) rfl (fun δ => ?_)
  change GG _ _ _ _ _ _ 1 48 _ [.inr (2, [.ref 1000, .null, .int 0, .null, .null, .long 0, .int 0, .int 0]), .inl (0, 48, .inl (fun _ => 0))] [some (.ref 0), some (.ref 1000)] [.ref 1, .ref 0]
  refine G_putF (w2 := [.inr (2, [.ref 1000, .ref 1, .int 0, .null, .null, .long 0, .int 0, .int 0]), .inl (0, 48, .inl (fun _ => 0))]) F_X2_15 rfl (fun _ _ _ h => by cases h; rfl) dX2_init_14 rfl rfl rfl (ltb rfl) rfl ?_
  refine G_aload_n dX2_init_17 rfl rfl ?_
  refine G_sipush 2048 dX2_init_18 (by decide) ?_
  refine G_newarr (t := 1) (a0 := (2048, .inr (.inl (fun _ => 0)))) (L := 2) (N := 2048) dX2_init_21 rfl aw_1 rfl ra_long (fun _ => rfl) (by decide) (by decide) (lel (a' := 16384) (b' := 536870912) rfl rfl rfl) (lel (a' := 2) (b' := 3) rfl rfl rfl) (lel (a' := 2096) (b' := 4144) rfl rfl rfl) (roHi.nil rfl rfl) (leb rfl) rfl (fun δ => ?_)
  change GG _ _ _ _ _ _ 2 2096 _ [.inr (2, [.ref 1000, .ref 1, .int 0, .null, .null, .long 0, .int 0, .int 0]), .inl (0, 48, .inl (fun _ => 0)), .inl (1, 2048, .inr (.inl (fun _ => 0)))] [some (.ref 0), some (.ref 1000)] [.ref 2, .ref 0]
  refine G_putF (w2 := [.inr (2, [.ref 1000, .ref 1, .int 0, .ref 2, .null, .long 0, .int 0, .int 0]), .inl (0, 48, .inl (fun _ => 0)), .inl (1, 2048, .inr (.inl (fun _ => 0)))]) F_X2_19 rfl (fun _ _ _ h => by cases h; rfl) dX2_init_23 rfl rfl rfl (ltb rfl) rfl ?_
  refine G_aload_n dX2_init_26 rfl rfl ?_
  refine G_sipush 2048 dX2_init_27 (by decide) ?_
  refine G_newarr (t := 0) (a0 := (2048, .inl (fun _ => 0))) (L := 3) (N := 2048) dX2_init_30 rfl aw_0 rfl ra_int (fun _ => rfl) (by decide) (by decide) (lel (a' := 8192) (b' := 536870912) rfl rfl rfl) (lel (a' := 3) (b' := 3) rfl rfl rfl) (lel (a' := 4144) (b' := 4144) rfl rfl rfl) (roHi.nil rfl rfl) (leb rfl) rfl (fun δ => ?_)
  change GG _ _ _ _ _ _ 3 4144 _ [.inr (2, [.ref 1000, .ref 1, .int 0, .ref 2, .null, .long 0, .int 0, .int 0]), .inl (0, 48, .inl (fun _ => 0)), .inl (1, 2048, .inr (.inl (fun _ => 0))), .inl (0, 2048, .inl (fun _ => 0))] [some (.ref 0), some (.ref 1000)] [.ref 3, .ref 0]
  refine G_putF (w2 := [.inr (2, [.ref 1000, .ref 1, .int 0, .ref 2, .ref 3, .long 0, .int 0, .int 0]), .inl (0, 48, .inl (fun _ => 0)), .inl (1, 2048, .inr (.inl (fun _ => 0))), .inl (0, 2048, .inl (fun _ => 0))]) F_X2_23 rfl (fun _ _ _ h => by cases h; rfl) dX2_init_32 rfl rfl rfl (ltb rfl) rfl ?_
  refine G_aload_n dX2_init_35 rfl rfl ?_
  refine G_iconst (-1 : Int32) dX2_init_36 (by decide) ?_
  refine G_put (w2 := [.inr (2, [.ref 1000, .ref 1, .int (-1 : Int32), .ref 2, .ref 3, .long 0, .int 0, .int 0]), .inl (0, 48, .inl (fun _ => 0)), .inl (1, 2048, .inr (.inl (fun _ => 0))), .inl (0, 2048, .inl (fun _ => 0))]) F_X2_26 dX2_init_37 rfl rfl rfl (ltb rfl) rfl ?_
  exact G_returnA dX2_init_40 rfl (lel (a' := 3) (b' := 3) rfl rfl rfl) (lel (a' := 4144) (b' := 4144) rfl rfl rfl)
abbrev mu_X1_init : KM := (yX1_init, cX1_init, 2, none, { frames := 1, cells := 4, slots := 68, locals := 12 }, [], [])
def wi_X1 : List mE := [.inr (1, [.long 0, .ref 1000, .long 0, .ref 1, .ref 2, .ref 3, .ref 4]), .inl (1, 48, .inr (.inl (fun _ => 0))), .inl (1, 6, .inr (.inl (fun _ => 0))), .inl (0, 8, .inl (fun _ => 0)), .inl (0, 6, .inl (fun _ => 0))]
theorem cwi_X1 : CWi mu_X1_init 1 := ⟨⟨all_of 223 (by decide +kernel) (by decide +kernel), all_of 8 (by decide +kernel) (by decide +kernel), by decide +kernel, by decide +kernel, by decide +kernel⟩, all_of 222 (by decide +kernel) (by decide +kernel), rfl, rfl⟩
set_option maxRecDepth 20000 in
theorem dX1_init_0 : decode cX1_init 0 = .ok (.aload_n 0, 1) := by decide +kernel
set_option maxRecDepth 20000 in
theorem dX1_init_1 : decode cX1_init 1 = .ok (.invokespecial 3, 3) := by decide +kernel
set_option maxRecDepth 20000 in
theorem dX1_init_4 : decode cX1_init 4 = .ok (.aload_n 0, 1) := by decide +kernel
set_option maxRecDepth 20000 in
theorem dX1_init_5 : decode cX1_init 5 = .ok (.aload_n 1, 1) := by decide +kernel
set_option maxRecDepth 20000 in
theorem dX1_init_6 : decode cX1_init 6 = .ok (.putfield 9, 3) := by decide +kernel
set_option maxRecDepth 20000 in
theorem dX1_init_9 : decode cX1_init 9 = .ok (.aload_n 0, 1) := by decide +kernel
set_option maxRecDepth 20000 in
theorem dX1_init_10 : decode cX1_init 10 = .ok (.bipush 48, 2) := by decide +kernel
set_option maxRecDepth 20000 in
theorem dX1_init_12 : decode cX1_init 12 = .ok (.newarray .long, 2) := by decide +kernel
set_option maxRecDepth 20000 in
theorem dX1_init_14 : decode cX1_init 14 = .ok (.putfield 15, 3) := by decide +kernel
set_option maxRecDepth 20000 in
theorem dX1_init_17 : decode cX1_init 17 = .ok (.aload_n 0, 1) := by decide +kernel
set_option maxRecDepth 20000 in
theorem dX1_init_18 : decode cX1_init 18 = .ok (.bipush 6, 2) := by decide +kernel
set_option maxRecDepth 20000 in
theorem dX1_init_20 : decode cX1_init 20 = .ok (.newarray .long, 2) := by decide +kernel
set_option maxRecDepth 20000 in
theorem dX1_init_22 : decode cX1_init 22 = .ok (.putfield 19, 3) := by decide +kernel
set_option maxRecDepth 20000 in
theorem dX1_init_25 : decode cX1_init 25 = .ok (.aload_n 0, 1) := by decide +kernel
set_option maxRecDepth 20000 in
theorem dX1_init_26 : decode cX1_init 26 = .ok (.bipush 8, 2) := by decide +kernel
set_option maxRecDepth 20000 in
theorem dX1_init_28 : decode cX1_init 28 = .ok (.newarray .int, 2) := by decide +kernel
set_option maxRecDepth 20000 in
theorem dX1_init_30 : decode cX1_init 30 = .ok (.putfield 22, 3) := by decide +kernel
set_option maxRecDepth 20000 in
theorem dX1_init_33 : decode cX1_init 33 = .ok (.aload_n 0, 1) := by decide +kernel
set_option maxRecDepth 20000 in
theorem dX1_init_34 : decode cX1_init 34 = .ok (.bipush 6, 2) := by decide +kernel
set_option maxRecDepth 20000 in
theorem dX1_init_36 : decode cX1_init 36 = .ok (.newarray .int, 2) := by decide +kernel
set_option maxRecDepth 20000 in
theorem dX1_init_38 : decode cX1_init 38 = .ok (.putfield 26, 3) := by decide +kernel
set_option maxRecDepth 20000 in
theorem dX1_init_41 : decode cX1_init 41 = .ok (.return_, 1) := by decide +kernel
set_option maxHeartbeats 4000000 in
set_option maxRecDepth 100000 in
theorem c_X1_init : ConA mu_X1_init [.ref 0, .ref 1000] [.inr (1, [.long 0, .null, .long 0, .null, .null, .null, .null])] wi_X1 := by
  refine ConA.mk (show plainName RX1 = true by decide +kernel) (leb rfl) (roHi.nil rfl rfl) (leb rfl) rfl (fun κ ω A ad δ => ?_)
  change GG mu_X1_init κ ω A (QA κ ω A ad 1 wi_X1 mu_X1_init.2.2.2.2.1.cells mu_X1_init.2.2.2.2.1.slots) (ext ad 1 δ) 0 0 0 [.inr (1, [.long 0, .null, .long 0, .null, .null, .null, .null])] [some (.ref 0), some (.ref 1000)] []
  refine G_aload_n dX1_init_0 rfl rfl ?_
  refine G_objInit dX1_init_1 mo_X1_3 oi_i oi_c (leb rfl) (leb rfl) ?_
  refine G_aload_n dX1_init_4 rfl rfl ?_
  refine G_aload_n dX1_init_5 rfl rfl ?_
  refine G_putF (w2 := [.inr (1, [.long 0, .ref 1000, .long 0, .null, .null, .null, .null])]) F_X1_9 rfl (fun _ _ _ h => by cases h; rfl) dX1_init_6 rfl rfl rfl (ltb rfl) rfl ?_
  refine G_aload_n dX1_init_9 rfl rfl ?_
  refine G_bipush 48 dX1_init_10 (by decide) ?_
  refine G_newarr (t := 1) (a0 := (48, .inr (.inl (fun _ => 0)))) (L := 1) (N := 48) dX1_init_12 rfl aw_1 rfl ra_long (fun _ => rfl) (by decide) (by decide) (lel (a' := 384) (b' := 536870912) rfl rfl rfl) (lel (a' := 1) (b' := 4) rfl rfl rfl) (lel (a' := 48) (b' := 68) rfl rfl rfl) (roHi.nil rfl rfl) (leb rfl) rfl (fun δ => ?_)
  change GG _ _ _ _ _ _ 1 48 _ [.inr (1, [.long 0, .ref 1000, .long 0, .null, .null, .null, .null]), .inl (1, 48, .inr (.inl (fun _ => 0)))] [some (.ref 0), some (.ref 1000)] [.ref 1, .ref 0]
  refine G_putF (w2 := [.inr (1, [.long 0, .ref 1000, .long 0, .ref 1, .null, .null, .null]), .inl (1, 48, .inr (.inl (fun _ => 0)))]) F_X1_15 rfl (fun _ _ _ h => by cases h; rfl) dX1_init_14 rfl rfl rfl (ltb rfl) rfl ?_
  refine G_aload_n dX1_init_17 rfl rfl ?_
  refine G_bipush 6 dX1_init_18 (by decide) ?_
  refine G_newarr (t := 1) (a0 := (6, .inr (.inl (fun _ => 0)))) (L := 2) (N := 6) dX1_init_20 rfl aw_1 rfl ra_long (fun _ => rfl) (by decide) (by decide) (lel (a' := 48) (b' := 536870912) rfl rfl rfl) (lel (a' := 2) (b' := 4) rfl rfl rfl) (lel (a' := 54) (b' := 68) rfl rfl rfl) (roHi.nil rfl rfl) (leb rfl) rfl (fun δ => ?_)
  change GG _ _ _ _ _ _ 2 54 _ [.inr (1, [.long 0, .ref 1000, .long 0, .ref 1, .null, .null, .null]), .inl (1, 48, .inr (.inl (fun _ => 0))), .inl (1, 6, .inr (.inl (fun _ => 0)))] [some (.ref 0), some (.ref 1000)] [.ref 2, .ref 0]
  refine G_putF (w2 := [.inr (1, [.long 0, .ref 1000, .long 0, .ref 1, .ref 2, .null, .null]), .inl (1, 48, .inr (.inl (fun _ => 0))), .inl (1, 6, .inr (.inl (fun _ => 0)))]) F_X1_19 rfl (fun _ _ _ h => by cases h; rfl) dX1_init_22 rfl rfl rfl (ltb rfl) rfl ?_
  refine G_aload_n dX1_init_25 rfl rfl ?_
  refine G_bipush 8 dX1_init_26 (by decide) ?_
  refine G_newarr (t := 0) (a0 := (8, .inl (fun _ => 0))) (L := 3) (N := 8) dX1_init_28 rfl aw_0 rfl ra_int (fun _ => rfl) (by decide) (by decide) (lel (a' := 32) (b' := 536870912) rfl rfl rfl) (lel (a' := 3) (b' := 4) rfl rfl rfl) (lel (a' := 62) (b' := 68) rfl rfl rfl) (roHi.nil rfl rfl) (leb rfl) rfl (fun δ => ?_)
  change GG _ _ _ _ _ _ 3 62 _ [.inr (1, [.long 0, .ref 1000, .long 0, .ref 1, .ref 2, .null, .null]), .inl (1, 48, .inr (.inl (fun _ => 0))), .inl (1, 6, .inr (.inl (fun _ => 0))), .inl (0, 8, .inl (fun _ => 0))] [some (.ref 0), some (.ref 1000)] [.ref 3, .ref 0]
  refine G_putF (w2 := [.inr (1, [.long 0, .ref 1000, .long 0, .ref 1, .ref 2, .ref 3, .null]), .inl (1, 48, .inr (.inl (fun _ => 0))), .inl (1, 6, .inr (.inl (fun _ => 0))), .inl (0, 8, .inl (fun _ => 0))]) F_X1_22 rfl (fun _ _ _ h => by cases h; rfl) dX1_init_30 rfl rfl rfl (ltb rfl) rfl ?_
  refine G_aload_n dX1_init_33 rfl rfl ?_
  refine G_bipush 6 dX1_init_34 (by decide) ?_
  refine G_newarr (t := 0) (a0 := (6, .inl (fun _ => 0))) (L := 4) (N := 6) dX1_init_36 rfl aw_0 rfl ra_int (fun _ => rfl) (by decide) (by decide) (lel (a' := 24) (b' := 536870912) rfl rfl rfl) (lel (a' := 4) (b' := 4) rfl rfl rfl) (lel (a' := 68) (b' := 68) rfl rfl rfl) (roHi.nil rfl rfl) (leb rfl) rfl (fun δ => ?_)
  change GG _ _ _ _ _ _ 4 68 _ [.inr (1, [.long 0, .ref 1000, .long 0, .ref 1, .ref 2, .ref 3, .null]), .inl (1, 48, .inr (.inl (fun _ => 0))), .inl (1, 6, .inr (.inl (fun _ => 0))), .inl (0, 8, .inl (fun _ => 0)), .inl (0, 6, .inl (fun _ => 0))] [some (.ref 0), some (.ref 1000)] [.ref 4, .ref 0]
  refine G_putF (w2 := [.inr (1, [.long 0, .ref 1000, .long 0, .ref 1, .ref 2, .ref 3, .ref 4]), .inl (1, 48, .inr (.inl (fun _ => 0))), .inl (1, 6, .inr (.inl (fun _ => 0))), .inl (0, 8, .inl (fun _ => 0)), .inl (0, 6, .inl (fun _ => 0))]) F_X1_26 rfl (fun _ _ _ h => by cases h; rfl) dX1_init_38 rfl rfl rfl (ltb rfl) rfl ?_
  exact G_returnA dX1_init_41 rfl (lel (a' := 4) (b' := 4) rfl rfl rfl) (lel (a' := 68) (b' := 68) rfl rfl rfl)
abbrev mu_X7_init : KM := (yX7_init, cX7_init, 2, none, { frames := 2, cells := 60, slots := 40723, locals := 34 }, [], [])
def wi_X7 (c_likes : Nat → Int32) (c_told : Nat → Int32) : List mE := [.inr (7, [.ref 1, .ref 7, .ref 18, .ref 29, .ref 40, .ref 42, .ref 48, .ref 51, .ref 55, .ref 60, .long 0, .long 1]), .inr (0, [.int 0, .int 0, .int 0, .ref 2, .ref 3, .ref 4, .ref 5]), .inl (0, 6, .inl (fun _ => 0)), .inl (0, 48, .inl (fun _ => 0)), .inl (0, 48, .inl c_likes), .inl (0, 32, .inl c_told), .inl (0, 4096, .inl (fun _ => 0)), .inr (4, [.ref 1, .ref 8, .ref 9, .int (-1 : Int32), .int 0, .int 0, .ref 10, .ref 11, .ref 12, .ref 13, .ref 14, .int 0, .ref 6, .ref 15, .ref 16, .ref 17]), .inl (0, 56, .inl (fun _ => 0)), .inl (0, 56, .inl (fun _ => 0)), .inl (0, 1056, .inl (fun _ => 0)), .inl (0, 1056, .inl (fun _ => 0)), .inl (0, 1056, .inl (fun _ => 0)), .inl (0, 7392, .inl (fun _ => 0)), .inl (0, 10, .inl (fun _ => 0)), .inl (0, 9, .inl (fun _ => 0)), .inl (0, 9, .inl (fun _ => 0)), .inl (0, 9, .inl (fun _ => 0)), .inr (4, [.ref 1, .ref 19, .ref 20, .int (-1 : Int32), .int 0, .int 0, .ref 21, .ref 22, .ref 23, .ref 24, .ref 25, .int 0, .ref 6, .ref 26, .ref 27, .ref 28]), .inl (0, 56, .inl (fun _ => 0)), .inl (0, 56, .inl (fun _ => 0)), .inl (0, 1056, .inl (fun _ => 0)), .inl (0, 1056, .inl (fun _ => 0)), .inl (0, 1056, .inl (fun _ => 0)), .inl (0, 7392, .inl (fun _ => 0)), .inl (0, 10, .inl (fun _ => 0)), .inl (0, 9, .inl (fun _ => 0)), .inl (0, 9, .inl (fun _ => 0)), .inl (0, 9, .inl (fun _ => 0)), .inr (4, [.ref 1, .ref 30, .ref 31, .int (-1 : Int32), .int 0, .int 0, .ref 32, .ref 33, .ref 34, .ref 35, .ref 36, .int 0, .ref 6, .ref 37, .ref 38, .ref 39]), .inl (0, 56, .inl (fun _ => 0)), .inl (0, 56, .inl (fun _ => 0)), .inl (0, 1056, .inl (fun _ => 0)), .inl (0, 1056, .inl (fun _ => 0)), .inl (0, 1056, .inl (fun _ => 0)), .inl (0, 7392, .inl (fun _ => 0)), .inl (0, 10, .inl (fun _ => 0)), .inl (0, 9, .inl (fun _ => 0)), .inl (0, 9, .inl (fun _ => 0)), .inl (0, 9, .inl (fun _ => 0)), .inr (5, [.ref 1, .int 0, .ref 41, .int 0]), .inl (0, 8, .inl (fun _ => 0)), .inr (6, [.ref 1, .ref 43, .ref 44, .ref 45, .ref 46, .ref 47]), .inl (0, 8, .inl (fun _ => 0)), .inl (0, 8, .inl (fun _ => 0)), .inl (0, 8, .inl (fun _ => 0)), .inl (0, 8, .inl (fun _ => 0)), .inl (0, 6, .inl (fun _ => 0)), .inr (3, [.ref 1, .ref 49, .int 0, .ref 50]), .inl (0, 8, .inl (fun _ => 0)), .inl (0, 8, .inl (fun _ => 0)), .inr (2, [.ref 1, .ref 52, .int (-1 : Int32), .ref 53, .ref 54, .long 0, .int 0, .int 0]), .inl (0, 48, .inl (fun _ => 0)), .inl (1, 2048, .inr (.inl (fun _ => 0))), .inl (0, 2048, .inl (fun _ => 0)), .inr (1, [.long 0, .ref 1, .long 0, .ref 56, .ref 57, .ref 58, .ref 59]), .inl (1, 48, .inr (.inl (fun _ => 0))), .inl (1, 6, .inr (.inl (fun _ => 0))), .inl (0, 8, .inl (fun _ => 0)), .inl (0, 6, .inl (fun _ => 0)), .inl (0, 8, .inl (fun _ => 0))]
theorem cwi_X7 : CWi mu_X7_init 0 := ⟨⟨all_of 15 (by decide +kernel) (by decide +kernel), all_of 1 (by decide +kernel) (by decide +kernel), by decide +kernel, by decide +kernel, by decide +kernel⟩, all_of 14 (by decide +kernel) (by decide +kernel), rfl, rfl⟩
set_option maxRecDepth 20000 in
theorem dX7_init_0 : decode cX7_init 0 = .ok (.aload_n 0, 1) := by decide +kernel
set_option maxRecDepth 20000 in
theorem dX7_init_1 : decode cX7_init 1 = .ok (.invokespecial 1, 3) := by decide +kernel
set_option maxRecDepth 20000 in
theorem dX7_init_4 : decode cX7_init 4 = .ok (.aload_n 0, 1) := by decide +kernel
set_option maxRecDepth 20000 in
theorem dX7_init_5 : decode cX7_init 5 = .ok (.new 7, 3) := by decide +kernel
set_option maxRecDepth 20000 in
theorem dX7_init_8 : decode cX7_init 8 = .ok (.dup, 1) := by decide +kernel
set_option maxRecDepth 20000 in
theorem dX7_init_9 : decode cX7_init 9 = .ok (.invokespecial 9, 3) := by decide +kernel
set_option maxRecDepth 20000 in
theorem dX7_init_12 : decode cX7_init 12 = .ok (.putfield 10, 3) := by decide +kernel
set_option maxRecDepth 20000 in
theorem dX7_init_15 : decode cX7_init 15 = .ok (.sipush 4096, 3) := by decide +kernel
set_option maxRecDepth 20000 in
theorem dX7_init_18 : decode cX7_init 18 = .ok (.newarray .int, 2) := by decide +kernel
set_option maxRecDepth 20000 in
theorem dX7_init_20 : decode cX7_init 20 = .ok (.astore_n 1, 1) := by decide +kernel
set_option maxRecDepth 20000 in
theorem dX7_init_21 : decode cX7_init 21 = .ok (.aload_n 0, 1) := by decide +kernel
set_option maxRecDepth 20000 in
theorem dX7_init_22 : decode cX7_init 22 = .ok (.new 16, 3) := by decide +kernel
set_option maxRecDepth 20000 in
theorem dX7_init_25 : decode cX7_init 25 = .ok (.dup, 1) := by decide +kernel
set_option maxRecDepth 20000 in
theorem dX7_init_26 : decode cX7_init 26 = .ok (.aload_n 0, 1) := by decide +kernel
set_option maxRecDepth 20000 in
theorem dX7_init_27 : decode cX7_init 27 = .ok (.getfield 10, 3) := by decide +kernel
set_option maxRecDepth 20000 in
theorem dX7_init_30 : decode cX7_init 30 = .ok (.aload_n 1, 1) := by decide +kernel
set_option maxRecDepth 20000 in
theorem dX7_init_31 : decode cX7_init 31 = .ok (.invokespecial 18, 3) := by decide +kernel
set_option maxRecDepth 20000 in
theorem dX7_init_34 : decode cX7_init 34 = .ok (.putfield 21, 3) := by decide +kernel
set_option maxRecDepth 20000 in
theorem dX7_init_37 : decode cX7_init 37 = .ok (.aload_n 0, 1) := by decide +kernel
set_option maxRecDepth 20000 in
theorem dX7_init_38 : decode cX7_init 38 = .ok (.new 16, 3) := by decide +kernel
set_option maxRecDepth 20000 in
theorem dX7_init_41 : decode cX7_init 41 = .ok (.dup, 1) := by decide +kernel
set_option maxRecDepth 20000 in
theorem dX7_init_42 : decode cX7_init 42 = .ok (.aload_n 0, 1) := by decide +kernel
set_option maxRecDepth 20000 in
theorem dX7_init_43 : decode cX7_init 43 = .ok (.getfield 10, 3) := by decide +kernel
set_option maxRecDepth 20000 in
theorem dX7_init_46 : decode cX7_init 46 = .ok (.aload_n 1, 1) := by decide +kernel
set_option maxRecDepth 20000 in
theorem dX7_init_47 : decode cX7_init 47 = .ok (.invokespecial 18, 3) := by decide +kernel
set_option maxRecDepth 20000 in
theorem dX7_init_50 : decode cX7_init 50 = .ok (.putfield 25, 3) := by decide +kernel
set_option maxRecDepth 20000 in
theorem dX7_init_53 : decode cX7_init 53 = .ok (.aload_n 0, 1) := by decide +kernel
set_option maxRecDepth 20000 in
theorem dX7_init_54 : decode cX7_init 54 = .ok (.new 16, 3) := by decide +kernel
set_option maxRecDepth 20000 in
theorem dX7_init_57 : decode cX7_init 57 = .ok (.dup, 1) := by decide +kernel
set_option maxRecDepth 20000 in
theorem dX7_init_58 : decode cX7_init 58 = .ok (.aload_n 0, 1) := by decide +kernel
set_option maxRecDepth 20000 in
theorem dX7_init_59 : decode cX7_init 59 = .ok (.getfield 10, 3) := by decide +kernel
set_option maxRecDepth 20000 in
theorem dX7_init_62 : decode cX7_init 62 = .ok (.aload_n 1, 1) := by decide +kernel
set_option maxRecDepth 20000 in
theorem dX7_init_63 : decode cX7_init 63 = .ok (.invokespecial 18, 3) := by decide +kernel
set_option maxRecDepth 20000 in
theorem dX7_init_66 : decode cX7_init 66 = .ok (.putfield 28, 3) := by decide +kernel
set_option maxRecDepth 20000 in
theorem dX7_init_69 : decode cX7_init 69 = .ok (.aload_n 0, 1) := by decide +kernel
set_option maxRecDepth 20000 in
theorem dX7_init_70 : decode cX7_init 70 = .ok (.new 31, 3) := by decide +kernel
set_option maxRecDepth 20000 in
theorem dX7_init_73 : decode cX7_init 73 = .ok (.dup, 1) := by decide +kernel
set_option maxRecDepth 20000 in
theorem dX7_init_74 : decode cX7_init 74 = .ok (.aload_n 0, 1) := by decide +kernel
set_option maxRecDepth 20000 in
theorem dX7_init_75 : decode cX7_init 75 = .ok (.getfield 10, 3) := by decide +kernel
set_option maxRecDepth 20000 in
theorem dX7_init_78 : decode cX7_init 78 = .ok (.invokespecial 33, 3) := by decide +kernel
set_option maxRecDepth 20000 in
theorem dX7_init_81 : decode cX7_init 81 = .ok (.putfield 36, 3) := by decide +kernel
set_option maxRecDepth 20000 in
theorem dX7_init_84 : decode cX7_init 84 = .ok (.aload_n 0, 1) := by decide +kernel
set_option maxRecDepth 20000 in
theorem dX7_init_85 : decode cX7_init 85 = .ok (.new 40, 3) := by decide +kernel
set_option maxRecDepth 20000 in
theorem dX7_init_88 : decode cX7_init 88 = .ok (.dup, 1) := by decide +kernel
set_option maxRecDepth 20000 in
theorem dX7_init_89 : decode cX7_init 89 = .ok (.aload_n 0, 1) := by decide +kernel
set_option maxRecDepth 20000 in
theorem dX7_init_90 : decode cX7_init 90 = .ok (.getfield 10, 3) := by decide +kernel
set_option maxRecDepth 20000 in
theorem dX7_init_93 : decode cX7_init 93 = .ok (.invokespecial 42, 3) := by decide +kernel
set_option maxRecDepth 20000 in
theorem dX7_init_96 : decode cX7_init 96 = .ok (.putfield 43, 3) := by decide +kernel
set_option maxRecDepth 20000 in
theorem dX7_init_99 : decode cX7_init 99 = .ok (.aload_n 0, 1) := by decide +kernel
set_option maxRecDepth 20000 in
theorem dX7_init_100 : decode cX7_init 100 = .ok (.new 47, 3) := by decide +kernel
set_option maxRecDepth 20000 in
theorem dX7_init_103 : decode cX7_init 103 = .ok (.dup, 1) := by decide +kernel
set_option maxRecDepth 20000 in
theorem dX7_init_104 : decode cX7_init 104 = .ok (.aload_n 0, 1) := by decide +kernel
set_option maxRecDepth 20000 in
theorem dX7_init_105 : decode cX7_init 105 = .ok (.getfield 10, 3) := by decide +kernel
set_option maxRecDepth 20000 in
theorem dX7_init_108 : decode cX7_init 108 = .ok (.invokespecial 49, 3) := by decide +kernel
set_option maxRecDepth 20000 in
theorem dX7_init_111 : decode cX7_init 111 = .ok (.putfield 50, 3) := by decide +kernel
set_option maxRecDepth 20000 in
theorem dX7_init_114 : decode cX7_init 114 = .ok (.aload_n 0, 1) := by decide +kernel
set_option maxRecDepth 20000 in
theorem dX7_init_115 : decode cX7_init 115 = .ok (.new 54, 3) := by decide +kernel
set_option maxRecDepth 20000 in
theorem dX7_init_118 : decode cX7_init 118 = .ok (.dup, 1) := by decide +kernel
set_option maxRecDepth 20000 in
theorem dX7_init_119 : decode cX7_init 119 = .ok (.aload_n 0, 1) := by decide +kernel
set_option maxRecDepth 20000 in
theorem dX7_init_120 : decode cX7_init 120 = .ok (.getfield 10, 3) := by decide +kernel
set_option maxRecDepth 20000 in
theorem dX7_init_123 : decode cX7_init 123 = .ok (.invokespecial 56, 3) := by decide +kernel
set_option maxRecDepth 20000 in
theorem dX7_init_126 : decode cX7_init 126 = .ok (.putfield 57, 3) := by decide +kernel
set_option maxRecDepth 20000 in
theorem dX7_init_129 : decode cX7_init 129 = .ok (.aload_n 0, 1) := by decide +kernel
set_option maxRecDepth 20000 in
theorem dX7_init_130 : decode cX7_init 130 = .ok (.new 61, 3) := by decide +kernel
set_option maxRecDepth 20000 in
theorem dX7_init_133 : decode cX7_init 133 = .ok (.dup, 1) := by decide +kernel
set_option maxRecDepth 20000 in
theorem dX7_init_134 : decode cX7_init 134 = .ok (.aload_n 0, 1) := by decide +kernel
set_option maxRecDepth 20000 in
theorem dX7_init_135 : decode cX7_init 135 = .ok (.getfield 10, 3) := by decide +kernel
set_option maxRecDepth 20000 in
theorem dX7_init_138 : decode cX7_init 138 = .ok (.invokespecial 63, 3) := by decide +kernel
set_option maxRecDepth 20000 in
theorem dX7_init_141 : decode cX7_init 141 = .ok (.putfield 64, 3) := by decide +kernel
set_option maxRecDepth 20000 in
theorem dX7_init_144 : decode cX7_init 144 = .ok (.aload_n 0, 1) := by decide +kernel
set_option maxRecDepth 20000 in
theorem dX7_init_145 : decode cX7_init 145 = .ok (.bipush 8, 2) := by decide +kernel
set_option maxRecDepth 20000 in
theorem dX7_init_147 : decode cX7_init 147 = .ok (.newarray .int, 2) := by decide +kernel
set_option maxRecDepth 20000 in
theorem dX7_init_149 : decode cX7_init 149 = .ok (.putfield 68, 3) := by decide +kernel
set_option maxRecDepth 20000 in
theorem dX7_init_152 : decode cX7_init 152 = .ok (.aload_n 0, 1) := by decide +kernel
set_option maxRecDepth 20000 in
theorem dX7_init_153 : decode cX7_init 153 = .ok (.lconst 0, 1) := by decide +kernel
set_option maxRecDepth 20000 in
theorem dX7_init_154 : decode cX7_init 154 = .ok (.putfield 72, 3) := by decide +kernel
set_option maxRecDepth 20000 in
theorem dX7_init_157 : decode cX7_init 157 = .ok (.aload_n 0, 1) := by decide +kernel
set_option maxRecDepth 20000 in
theorem dX7_init_158 : decode cX7_init 158 = .ok (.lconst 1, 1) := by decide +kernel
set_option maxRecDepth 20000 in
theorem dX7_init_159 : decode cX7_init 159 = .ok (.putfield 76, 3) := by decide +kernel
set_option maxRecDepth 20000 in
theorem dX7_init_162 : decode cX7_init 162 = .ok (.return_, 1) := by decide +kernel
set_option maxHeartbeats 4000000 in
set_option maxRecDepth 100000 in
theorem c_X7_init {N : Nat} {c_likes c_told : Nat → Int32} (hf : f_X0_init N = some (c_likes, c_told)) : ConA mu_X7_init [.ref 0] [.inr (7, [.null, .null, .null, .null, .null, .null, .null, .null, .null, .null, .long 0, .long 0])] (wi_X7 c_likes c_told) := by
  refine ConA.mk (show plainName RX7 = true by decide +kernel) (leb rfl) (roHi.nil rfl rfl) (leb rfl) rfl (fun κ ω A ad δ => ?_)
  change GG mu_X7_init κ ω A (QA κ ω A ad 1 (wi_X7 c_likes c_told) mu_X7_init.2.2.2.2.1.cells mu_X7_init.2.2.2.2.1.slots) (ext ad 1 δ) 0 0 0 [.inr (7, [.null, .null, .null, .null, .null, .null, .null, .null, .null, .null, .long 0, .long 0])] [some (.ref 0), none] []
  refine G_aload_n dX7_init_0 rfl rfl ?_
  refine G_objInit dX7_init_1 mo_X7_1 oi_i oi_c (leb rfl) (leb rfl) ?_
  refine G_aload_n dX7_init_4 rfl rfl ?_
  refine G_new (L := 1) N_X7_7 dX7_init_5 (fun _ => rfl) (lel (a' := 1) (b' := 60) rfl rfl rfl) (lel (a' := 7) (b' := 40723) rfl rfl rfl) (roHi.nil rfl rfl) (leb rfl) rfl (fun δ => ?_)
  change GG _ _ _ _ _ _ 1 7 _ [.inr (7, [.null, .null, .null, .null, .null, .null, .null, .null, .null, .null, .long 0, .long 0]), .inr (0, [.int 0, .int 0, .int 0, .null, .null, .null, .null])] [some (.ref 0), none] [.ref 1, .ref 0]
  refine G_dup dX7_init_8 rfl ?_
  refine G_callI (μ2 := mu_X0_init) (As := []) (w2 := [.inr (7, [.null, .null, .null, .null, .null, .null, .null, .null, .null, .null, .long 0, .long 0]), .inr (0, [.int 0, .int 0, .int 0, .ref 2, .ref 3, .ref 4, .ref 5]), .inl (0, 6, .inl (fun _ => 0)), .inl (0, 48, .inl (fun _ => 0)), .inl (0, 48, .inl c_likes), .inl (0, 32, .inl c_told)]) (wc := [.inr (0, [.int 0, .int 0, .int 0, .null, .null, .null, .null])]) (wc2 := wi_X0 c_likes c_told) (rest := [.ref 1, .ref 0]) [1] [] [0] [0, 1, 2, 3, 4, 5] (c_X0_init hf) cwi_X0 m_X7_9 dX7_init_9 rfl ⟨leb rfl, leb rfl⟩ ⟨lel (a' := 5) (b' := 60) rfl rfl rfl, lel (a' := 141) (b' := 40723) rfl rfl rfl⟩ (roHi.nil rfl rfl) ⟨rfl, rfl⟩ (leb rfl) rfl rfl (fun _ => rfl) rfl (leb rfl) rfl (fun δ => ?_)
  change GG _ _ _ _ _ _ 5 141 _ [.inr (7, [.null, .null, .null, .null, .null, .null, .null, .null, .null, .null, .long 0, .long 0]), .inr (0, [.int 0, .int 0, .int 0, .ref 2, .ref 3, .ref 4, .ref 5]), .inl (0, 6, .inl (fun _ => 0)), .inl (0, 48, .inl (fun _ => 0)), .inl (0, 48, .inl c_likes), .inl (0, 32, .inl c_told)] [some (.ref 0), none] [.ref 1, .ref 0]
  refine G_putF (w2 := [.inr (7, [.ref 1, .null, .null, .null, .null, .null, .null, .null, .null, .null, .long 0, .long 0]), .inr (0, [.int 0, .int 0, .int 0, .ref 2, .ref 3, .ref 4, .ref 5]), .inl (0, 6, .inl (fun _ => 0)), .inl (0, 48, .inl (fun _ => 0)), .inl (0, 48, .inl c_likes), .inl (0, 32, .inl c_told)]) F_X7_10 rfl (fun _ _ _ h => by cases h; rfl) dX7_init_12 rfl rfl rfl (ltb rfl) rfl ?_
  refine G_sipush 4096 dX7_init_15 (by decide) ?_
  refine G_newarr (t := 0) (a0 := (4096, .inl (fun _ => 0))) (L := 6) (N := 4096) dX7_init_18 rfl aw_0 rfl ra_int (fun _ => rfl) (by decide) (by decide) (lel (a' := 16384) (b' := 536870912) rfl rfl rfl) (lel (a' := 6) (b' := 60) rfl rfl rfl) (lel (a' := 4237) (b' := 40723) rfl rfl rfl) (roHi.nil rfl rfl) (leb rfl) rfl (fun δ => ?_)
  change GG _ _ _ _ _ _ 6 4237 _ [.inr (7, [.ref 1, .null, .null, .null, .null, .null, .null, .null, .null, .null, .long 0, .long 0]), .inr (0, [.int 0, .int 0, .int 0, .ref 2, .ref 3, .ref 4, .ref 5]), .inl (0, 6, .inl (fun _ => 0)), .inl (0, 48, .inl (fun _ => 0)), .inl (0, 48, .inl c_likes), .inl (0, 32, .inl c_told), .inl (0, 4096, .inl (fun _ => 0))] [some (.ref 0), none] [.ref 6]
  refine G_astore_n dX7_init_20 rfl (ltb rfl) ?_
  change GG _ _ _ _ _ _ 6 4237 _ [.inr (7, [.ref 1, .null, .null, .null, .null, .null, .null, .null, .null, .null, .long 0, .long 0]), .inr (0, [.int 0, .int 0, .int 0, .ref 2, .ref 3, .ref 4, .ref 5]), .inl (0, 6, .inl (fun _ => 0)), .inl (0, 48, .inl (fun _ => 0)), .inl (0, 48, .inl c_likes), .inl (0, 32, .inl c_told), .inl (0, 4096, .inl (fun _ => 0))] [some (.ref 0), some (.ref 6)] []
  refine G_aload_n dX7_init_21 rfl rfl ?_
  refine G_new (L := 7) N_X7_16 dX7_init_22 (fun _ => rfl) (lel (a' := 7) (b' := 60) rfl rfl rfl) (lel (a' := 4253) (b' := 40723) rfl rfl rfl) (roHi.nil rfl rfl) (leb rfl) rfl (fun δ => ?_)
  change GG _ _ _ _ _ _ 7 4253 _ [.inr (7, [.ref 1, .null, .null, .null, .null, .null, .null, .null, .null, .null, .long 0, .long 0]), .inr (0, [.int 0, .int 0, .int 0, .ref 2, .ref 3, .ref 4, .ref 5]), .inl (0, 6, .inl (fun _ => 0)), .inl (0, 48, .inl (fun _ => 0)), .inl (0, 48, .inl c_likes), .inl (0, 32, .inl c_told), .inl (0, 4096, .inl (fun _ => 0)), .inr (4, [.null, .null, .null, .int 0, .int 0, .int 0, .null, .null, .null, .null, .null, .int 0, .null, .null, .null, .null])] [some (.ref 0), some (.ref 6)] [.ref 7, .ref 0]
  refine G_dup dX7_init_25 rfl ?_
  refine G_aload_n dX7_init_26 rfl rfl ?_
  refine G_get (v := .ref 1) F_X7_10 dX7_init_27 rfl rfl ?_
  refine G_aload_n dX7_init_30 rfl rfl ?_
  refine G_callI (μ2 := mu_X4_init) (As := [.ref 1000, .ref 1001]) (w2 := [.inr (7, [.ref 1, .null, .null, .null, .null, .null, .null, .null, .null, .null, .long 0, .long 0]), .inr (0, [.int 0, .int 0, .int 0, .ref 2, .ref 3, .ref 4, .ref 5]), .inl (0, 6, .inl (fun _ => 0)), .inl (0, 48, .inl (fun _ => 0)), .inl (0, 48, .inl c_likes), .inl (0, 32, .inl c_told), .inl (0, 4096, .inl (fun _ => 0)), .inr (4, [.ref 1, .ref 8, .ref 9, .int (-1 : Int32), .int 0, .int 0, .ref 10, .ref 11, .ref 12, .ref 13, .ref 14, .int 0, .ref 6, .ref 15, .ref 16, .ref 17]), .inl (0, 56, .inl (fun _ => 0)), .inl (0, 56, .inl (fun _ => 0)), .inl (0, 1056, .inl (fun _ => 0)), .inl (0, 1056, .inl (fun _ => 0)), .inl (0, 1056, .inl (fun _ => 0)), .inl (0, 7392, .inl (fun _ => 0)), .inl (0, 10, .inl (fun _ => 0)), .inl (0, 9, .inl (fun _ => 0)), .inl (0, 9, .inl (fun _ => 0)), .inl (0, 9, .inl (fun _ => 0))]) (wc := [.inr (4, [.null, .null, .null, .int 0, .int 0, .int 0, .null, .null, .null, .null, .null, .int 0, .null, .null, .null, .null])]) (wc2 := wi_X4) (rest := [.ref 7, .ref 0]) [7] [1, 6] [0, 1, 2, 3, 4, 5, 6] [0, 1, 2, 3, 4, 5, 6, 7, 8, 9, 10, 11, 12, 13, 14, 15, 16, 17] (c_X4_init) cwi_X4 m_X7_18 dX7_init_31 rfl ⟨leb rfl, leb rfl⟩ ⟨lel (a' := 17) (b' := 60) rfl rfl rfl, lel (a' := 14962) (b' := 40723) rfl rfl rfl⟩ (roHi.nil rfl rfl) ⟨rfl, rfl⟩ (leb rfl) rfl rfl (fun _ => rfl) rfl (leb rfl) rfl (fun δ => ?_)
  change GG _ _ _ _ _ _ 17 14962 _ [.inr (7, [.ref 1, .null, .null, .null, .null, .null, .null, .null, .null, .null, .long 0, .long 0]), .inr (0, [.int 0, .int 0, .int 0, .ref 2, .ref 3, .ref 4, .ref 5]), .inl (0, 6, .inl (fun _ => 0)), .inl (0, 48, .inl (fun _ => 0)), .inl (0, 48, .inl c_likes), .inl (0, 32, .inl c_told), .inl (0, 4096, .inl (fun _ => 0)), .inr (4, [.ref 1, .ref 8, .ref 9, .int (-1 : Int32), .int 0, .int 0, .ref 10, .ref 11, .ref 12, .ref 13, .ref 14, .int 0, .ref 6, .ref 15, .ref 16, .ref 17]), .inl (0, 56, .inl (fun _ => 0)), .inl (0, 56, .inl (fun _ => 0)), .inl (0, 1056, .inl (fun _ => 0)), .inl (0, 1056, .inl (fun _ => 0)), .inl (0, 1056, .inl (fun _ => 0)), .inl (0, 7392, .inl (fun _ => 0)), .inl (0, 10, .inl (fun _ => 0)), .inl (0, 9, .inl (fun _ => 0)), .inl (0, 9, .inl (fun _ => 0)), .inl (0, 9, .inl (fun _ => 0))] [some (.ref 0), some (.ref 6)] [.ref 7, .ref 0]
  refine G_putF (w2 := [.inr (7, [.ref 1, .ref 7, .null, .null, .null, .null, .null, .null, .null, .null, .long 0, .long 0]), .inr (0, [.int 0, .int 0, .int 0, .ref 2, .ref 3, .ref 4, .ref 5]), .inl (0, 6, .inl (fun _ => 0)), .inl (0, 48, .inl (fun _ => 0)), .inl (0, 48, .inl c_likes), .inl (0, 32, .inl c_told), .inl (0, 4096, .inl (fun _ => 0)), .inr (4, [.ref 1, .ref 8, .ref 9, .int (-1 : Int32), .int 0, .int 0, .ref 10, .ref 11, .ref 12, .ref 13, .ref 14, .int 0, .ref 6, .ref 15, .ref 16, .ref 17]), .inl (0, 56, .inl (fun _ => 0)), .inl (0, 56, .inl (fun _ => 0)), .inl (0, 1056, .inl (fun _ => 0)), .inl (0, 1056, .inl (fun _ => 0)), .inl (0, 1056, .inl (fun _ => 0)), .inl (0, 7392, .inl (fun _ => 0)), .inl (0, 10, .inl (fun _ => 0)), .inl (0, 9, .inl (fun _ => 0)), .inl (0, 9, .inl (fun _ => 0)), .inl (0, 9, .inl (fun _ => 0))]) F_X7_21 rfl (fun _ _ _ h => by cases h; rfl) dX7_init_34 rfl rfl rfl (ltb rfl) rfl ?_
  refine G_aload_n dX7_init_37 rfl rfl ?_
  refine G_new (L := 18) N_X7_16 dX7_init_38 (fun _ => rfl) (lel (a' := 18) (b' := 60) rfl rfl rfl) (lel (a' := 14978) (b' := 40723) rfl rfl rfl) (roHi.nil rfl rfl) (leb rfl) rfl (fun δ => ?_)
  change GG _ _ _ _ _ _ 18 14978 _ [.inr (7, [.ref 1, .ref 7, .null, .null, .null, .null, .null, .null, .null, .null, .long 0, .long 0]), .inr (0, [.int 0, .int 0, .int 0, .ref 2, .ref 3, .ref 4, .ref 5]), .inl (0, 6, .inl (fun _ => 0)), .inl (0, 48, .inl (fun _ => 0)), .inl (0, 48, .inl c_likes), .inl (0, 32, .inl c_told), .inl (0, 4096, .inl (fun _ => 0)), .inr (4, [.ref 1, .ref 8, .ref 9, .int (-1 : Int32), .int 0, .int 0, .ref 10, .ref 11, .ref 12, .ref 13, .ref 14, .int 0, .ref 6, .ref 15, .ref 16, .ref 17]), .inl (0, 56, .inl (fun _ => 0)), .inl (0, 56, .inl (fun _ => 0)), .inl (0, 1056, .inl (fun _ => 0)), .inl (0, 1056, .inl (fun _ => 0)), .inl (0, 1056, .inl (fun _ => 0)), .inl (0, 7392, .inl (fun _ => 0)), .inl (0, 10, .inl (fun _ => 0)), .inl (0, 9, .inl (fun _ => 0)), .inl (0, 9, .inl (fun _ => 0)), .inl (0, 9, .inl (fun _ => 0)), .inr (4, [.null, .null, .null, .int 0, .int 0, .int 0, .null, .null, .null, .null, .null, .int 0, .null, .null, .null, .null])] [some (.ref 0), some (.ref 6)] [.ref 18, .ref 0]
  refine G_dup dX7_init_41 rfl ?_
  refine G_aload_n dX7_init_42 rfl rfl ?_
  refine G_get (v := .ref 1) F_X7_10 dX7_init_43 rfl rfl ?_
  refine G_aload_n dX7_init_46 rfl rfl ?_
  refine G_callI (μ2 := mu_X4_init) (As := [.ref 1000, .ref 1001]) (w2 := [.inr (7, [.ref 1, .ref 7, .null, .null, .null, .null, .null, .null, .null, .null, .long 0, .long 0]), .inr (0, [.int 0, .int 0, .int 0, .ref 2, .ref 3, .ref 4, .ref 5]), .inl (0, 6, .inl (fun _ => 0)), .inl (0, 48, .inl (fun _ => 0)), .inl (0, 48, .inl c_likes), .inl (0, 32, .inl c_told), .inl (0, 4096, .inl (fun _ => 0)), .inr (4, [.ref 1, .ref 8, .ref 9, .int (-1 : Int32), .int 0, .int 0, .ref 10, .ref 11, .ref 12, .ref 13, .ref 14, .int 0, .ref 6, .ref 15, .ref 16, .ref 17]), .inl (0, 56, .inl (fun _ => 0)), .inl (0, 56, .inl (fun _ => 0)), .inl (0, 1056, .inl (fun _ => 0)), .inl (0, 1056, .inl (fun _ => 0)), .inl (0, 1056, .inl (fun _ => 0)), .inl (0, 7392, .inl (fun _ => 0)), .inl (0, 10, .inl (fun _ => 0)), .inl (0, 9, .inl (fun _ => 0)), .inl (0, 9, .inl (fun _ => 0)), .inl (0, 9, .inl (fun _ => 0)), .inr (4, [.ref 1, .ref 19, .ref 20, .int (-1 : Int32), .int 0, .int 0, .ref 21, .ref 22, .ref 23, .ref 24, .ref 25, .int 0, .ref 6, .ref 26, .ref 27, .ref 28]), .inl (0, 56, .inl (fun _ => 0)), .inl (0, 56, .inl (fun _ => 0)), .inl (0, 1056, .inl (fun _ => 0)), .inl (0, 1056, .inl (fun _ => 0)), .inl (0, 1056, .inl (fun _ => 0)), .inl (0, 7392, .inl (fun _ => 0)), .inl (0, 10, .inl (fun _ => 0)), .inl (0, 9, .inl (fun _ => 0)), .inl (0, 9, .inl (fun _ => 0)), .inl (0, 9, .inl (fun _ => 0))]) (wc := [.inr (4, [.null, .null, .null, .int 0, .int 0, .int 0, .null, .null, .null, .null, .null, .int 0, .null, .null, .null, .null])]) (wc2 := wi_X4) (rest := [.ref 18, .ref 0]) [18] [1, 6] [0, 1, 2, 3, 4, 5, 6, 7, 8, 9, 10, 11, 12, 13, 14, 15, 16, 17] [0, 1, 2, 3, 4, 5, 6, 7, 8, 9, 10, 11, 12, 13, 14, 15, 16, 17, 18, 19, 20, 21, 22, 23, 24, 25, 26, 27, 28] (c_X4_init) cwi_X4 m_X7_18 dX7_init_47 rfl ⟨leb rfl, leb rfl⟩ ⟨lel (a' := 28) (b' := 60) rfl rfl rfl, lel (a' := 25687) (b' := 40723) rfl rfl rfl⟩ (roHi.nil rfl rfl) ⟨rfl, rfl⟩ (leb rfl) rfl rfl (fun _ => rfl) rfl (leb rfl) rfl (fun δ => ?_)
  change GG _ _ _ _ _ _ 28 25687 _ [.inr (7, [.ref 1, .ref 7, .null, .null, .null, .null, .null, .null, .null, .null, .long 0, .long 0]), .inr (0, [.int 0, .int 0, .int 0, .ref 2, .ref 3, .ref 4, .ref 5]), .inl (0, 6, .inl (fun _ => 0)), .inl (0, 48, .inl (fun _ => 0)), .inl (0, 48, .inl c_likes), .inl (0, 32, .inl c_told), .inl (0, 4096, .inl (fun _ => 0)), .inr (4, [.ref 1, .ref 8, .ref 9, .int (-1 : Int32), .int 0, .int 0, .ref 10, .ref 11, .ref 12, .ref 13, .ref 14, .int 0, .ref 6, .ref 15, .ref 16, .ref 17]), .inl (0, 56, .inl (fun _ => 0)), .inl (0, 56, .inl (fun _ => 0)), .inl (0, 1056, .inl (fun _ => 0)), .inl (0, 1056, .inl (fun _ => 0)), .inl (0, 1056, .inl (fun _ => 0)), .inl (0, 7392, .inl (fun _ => 0)), .inl (0, 10, .inl (fun _ => 0)), .inl (0, 9, .inl (fun _ => 0)), .inl (0, 9, .inl (fun _ => 0)), .inl (0, 9, .inl (fun _ => 0)), .inr (4, [.ref 1, .ref 19, .ref 20, .int (-1 : Int32), .int 0, .int 0, .ref 21, .ref 22, .ref 23, .ref 24, .ref 25, .int 0, .ref 6, .ref 26, .ref 27, .ref 28]), .inl (0, 56, .inl (fun _ => 0)), .inl (0, 56, .inl (fun _ => 0)), .inl (0, 1056, .inl (fun _ => 0)), .inl (0, 1056, .inl (fun _ => 0)), .inl (0, 1056, .inl (fun _ => 0)), .inl (0, 7392, .inl (fun _ => 0)), .inl (0, 10, .inl (fun _ => 0)), .inl (0, 9, .inl (fun _ => 0)), .inl (0, 9, .inl (fun _ => 0)), .inl (0, 9, .inl (fun _ => 0))] [some (.ref 0), some (.ref 6)] [.ref 18, .ref 0]
  refine G_putF (w2 := [.inr (7, [.ref 1, .ref 7, .ref 18, .null, .null, .null, .null, .null, .null, .null, .long 0, .long 0]), .inr (0, [.int 0, .int 0, .int 0, .ref 2, .ref 3, .ref 4, .ref 5]), .inl (0, 6, .inl (fun _ => 0)), .inl (0, 48, .inl (fun _ => 0)), .inl (0, 48, .inl c_likes), .inl (0, 32, .inl c_told), .inl (0, 4096, .inl (fun _ => 0)), .inr (4, [.ref 1, .ref 8, .ref 9, .int (-1 : Int32), .int 0, .int 0, .ref 10, .ref 11, .ref 12, .ref 13, .ref 14, .int 0, .ref 6, .ref 15, .ref 16, .ref 17]), .inl (0, 56, .inl (fun _ => 0)), .inl (0, 56, .inl (fun _ => 0)), .inl (0, 1056, .inl (fun _ => 0)), .inl (0, 1056, .inl (fun _ => 0)), .inl (0, 1056, .inl (fun _ => 0)), .inl (0, 7392, .inl (fun _ => 0)), .inl (0, 10, .inl (fun _ => 0)), .inl (0, 9, .inl (fun _ => 0)), .inl (0, 9, .inl (fun _ => 0)), .inl (0, 9, .inl (fun _ => 0)), .inr (4, [.ref 1, .ref 19, .ref 20, .int (-1 : Int32), .int 0, .int 0, .ref 21, .ref 22, .ref 23, .ref 24, .ref 25, .int 0, .ref 6, .ref 26, .ref 27, .ref 28]), .inl (0, 56, .inl (fun _ => 0)), .inl (0, 56, .inl (fun _ => 0)), .inl (0, 1056, .inl (fun _ => 0)), .inl (0, 1056, .inl (fun _ => 0)), .inl (0, 1056, .inl (fun _ => 0)), .inl (0, 7392, .inl (fun _ => 0)), .inl (0, 10, .inl (fun _ => 0)), .inl (0, 9, .inl (fun _ => 0)), .inl (0, 9, .inl (fun _ => 0)), .inl (0, 9, .inl (fun _ => 0))]) F_X7_25 rfl (fun _ _ _ h => by cases h; rfl) dX7_init_50 rfl rfl rfl (ltb rfl) rfl ?_
  refine G_aload_n dX7_init_53 rfl rfl ?_
  refine G_new (L := 29) N_X7_16 dX7_init_54 (fun _ => rfl) (lel (a' := 29) (b' := 60) rfl rfl rfl) (lel (a' := 25703) (b' := 40723) rfl rfl rfl) (roHi.nil rfl rfl) (leb rfl) rfl (fun δ => ?_)
  change GG _ _ _ _ _ _ 29 25703 _ [.inr (7, [.ref 1, .ref 7, .ref 18, .null, .null, .null, .null, .null, .null, .null, .long 0, .long 0]), .inr (0, [.int 0, .int 0, .int 0, .ref 2, .ref 3, .ref 4, .ref 5]), .inl (0, 6, .inl (fun _ => 0)), .inl (0, 48, .inl (fun _ => 0)), .inl (0, 48, .inl c_likes), .inl (0, 32, .inl c_told), .inl (0, 4096, .inl (fun _ => 0)), .inr (4, [.ref 1, .ref 8, .ref 9, .int (-1 : Int32), .int 0, .int 0, .ref 10, .ref 11, .ref 12, .ref 13, .ref 14, .int 0, .ref 6, .ref 15, .ref 16, .ref 17]), .inl (0, 56, .inl (fun _ => 0)), .inl (0, 56, .inl (fun _ => 0)), .inl (0, 1056, .inl (fun _ => 0)), .inl (0, 1056, .inl (fun _ => 0)), .inl (0, 1056, .inl (fun _ => 0)), .inl (0, 7392, .inl (fun _ => 0)), .inl (0, 10, .inl (fun _ => 0)), .inl (0, 9, .inl (fun _ => 0)), .inl (0, 9, .inl (fun _ => 0)), .inl (0, 9, .inl (fun _ => 0)), .inr (4, [.ref 1, .ref 19, .ref 20, .int (-1 : Int32), .int 0, .int 0, .ref 21, .ref 22, .ref 23, .ref 24, .ref 25, .int 0, .ref 6, .ref 26, .ref 27, .ref 28]), .inl (0, 56, .inl (fun _ => 0)), .inl (0, 56, .inl (fun _ => 0)), .inl (0, 1056, .inl (fun _ => 0)), .inl (0, 1056, .inl (fun _ => 0)), .inl (0, 1056, .inl (fun _ => 0)), .inl (0, 7392, .inl (fun _ => 0)), .inl (0, 10, .inl (fun _ => 0)), .inl (0, 9, .inl (fun _ => 0)), .inl (0, 9, .inl (fun _ => 0)), .inl (0, 9, .inl (fun _ => 0)), .inr (4, [.null, .null, .null, .int 0, .int 0, .int 0, .null, .null, .null, .null, .null, .int 0, .null, .null, .null, .null])] [some (.ref 0), some (.ref 6)] [.ref 29, .ref 0]
  refine G_dup dX7_init_57 rfl ?_
  refine G_aload_n dX7_init_58 rfl rfl ?_
  refine G_get (v := .ref 1) F_X7_10 dX7_init_59 rfl rfl ?_
  refine G_aload_n dX7_init_62 rfl rfl ?_
  refine G_callI (μ2 := mu_X4_init) (As := [.ref 1000, .ref 1001]) (w2 := [.inr (7, [.ref 1, .ref 7, .ref 18, .null, .null, .null, .null, .null, .null, .null, .long 0, .long 0]), .inr (0, [.int 0, .int 0, .int 0, .ref 2, .ref 3, .ref 4, .ref 5]), .inl (0, 6, .inl (fun _ => 0)), .inl (0, 48, .inl (fun _ => 0)), .inl (0, 48, .inl c_likes), .inl (0, 32, .inl c_told), .inl (0, 4096, .inl (fun _ => 0)), .inr (4, [.ref 1, .ref 8, .ref 9, .int (-1 : Int32), .int 0, .int 0, .ref 10, .ref 11, .ref 12, .ref 13, .ref 14, .int 0, .ref 6, .ref 15, .ref 16, .ref 17]), .inl (0, 56, .inl (fun _ => 0)), .inl (0, 56, .inl (fun _ => 0)), .inl (0, 1056, .inl (fun _ => 0)), .inl (0, 1056, .inl (fun _ => 0)), .inl (0, 1056, .inl (fun _ => 0)), .inl (0, 7392, .inl (fun _ => 0)), .inl (0, 10, .inl (fun _ => 0)), .inl (0, 9, .inl (fun _ => 0)), .inl (0, 9, .inl (fun _ => 0)), .inl (0, 9, .inl (fun _ => 0)), .inr (4, [.ref 1, .ref 19, .ref 20, .int (-1 : Int32), .int 0, .int 0, .ref 21, .ref 22, .ref 23, .ref 24, .ref 25, .int 0, .ref 6, .ref 26, .ref 27, .ref 28]), .inl (0, 56, .inl (fun _ => 0)), .inl (0, 56, .inl (fun _ => 0)), .inl (0, 1056, .inl (fun _ => 0)), .inl (0, 1056, .inl (fun _ => 0)), .inl (0, 1056, .inl (fun _ => 0)), .inl (0, 7392, .inl (fun _ => 0)), .inl (0, 10, .inl (fun _ => 0)), .inl (0, 9, .inl (fun _ => 0)), .inl (0, 9, .inl (fun _ => 0)), .inl (0, 9, .inl (fun _ => 0)), .inr (4, [.ref 1, .ref 30, .ref 31, .int (-1 : Int32), .int 0, .int 0, .ref 32, .ref 33, .ref 34, .ref 35, .ref 36, .int 0, .ref 6, .ref 37, .ref 38, .ref 39]), .inl (0, 56, .inl (fun _ => 0)), .inl (0, 56, .inl (fun _ => 0)), .inl (0, 1056, .inl (fun _ => 0)), .inl (0, 1056, .inl (fun _ => 0)), .inl (0, 1056, .inl (fun _ => 0)), .inl (0, 7392, .inl (fun _ => 0)), .inl (0, 10, .inl (fun _ => 0)), .inl (0, 9, .inl (fun _ => 0)), .inl (0, 9, .inl (fun _ => 0)), .inl (0, 9, .inl (fun _ => 0))]) (wc := [.inr (4, [.null, .null, .null, .int 0, .int 0, .int 0, .null, .null, .null, .null, .null, .int 0, .null, .null, .null, .null])]) (wc2 := wi_X4) (rest := [.ref 29, .ref 0]) [29] [1, 6] [0, 1, 2, 3, 4, 5, 6, 7, 8, 9, 10, 11, 12, 13, 14, 15, 16, 17, 18, 19, 20, 21, 22, 23, 24, 25, 26, 27, 28] [0, 1, 2, 3, 4, 5, 6, 7, 8, 9, 10, 11, 12, 13, 14, 15, 16, 17, 18, 19, 20, 21, 22, 23, 24, 25, 26, 27, 28, 29, 30, 31, 32, 33, 34, 35, 36, 37, 38, 39] (c_X4_init) cwi_X4 m_X7_18 dX7_init_63 rfl ⟨leb rfl, leb rfl⟩ ⟨lel (a' := 39) (b' := 60) rfl rfl rfl, lel (a' := 36412) (b' := 40723) rfl rfl rfl⟩ (roHi.nil rfl rfl) ⟨rfl, rfl⟩ (leb rfl) rfl rfl (fun _ => rfl) rfl (leb rfl) rfl (fun δ => ?_)
  change GG _ _ _ _ _ _ 39 36412 _ [.inr (7, [.ref 1, .ref 7, .ref 18, .null, .null, .null, .null, .null, .null, .null, .long 0, .long 0]), .inr (0, [.int 0, .int 0, .int 0, .ref 2, .ref 3, .ref 4, .ref 5]), .inl (0, 6, .inl (fun _ => 0)), .inl (0, 48, .inl (fun _ => 0)), .inl (0, 48, .inl c_likes), .inl (0, 32, .inl c_told), .inl (0, 4096, .inl (fun _ => 0)), .inr (4, [.ref 1, .ref 8, .ref 9, .int (-1 : Int32), .int 0, .int 0, .ref 10, .ref 11, .ref 12, .ref 13, .ref 14, .int 0, .ref 6, .ref 15, .ref 16, .ref 17]), .inl (0, 56, .inl (fun _ => 0)), .inl (0, 56, .inl (fun _ => 0)), .inl (0, 1056, .inl (fun _ => 0)), .inl (0, 1056, .inl (fun _ => 0)), .inl (0, 1056, .inl (fun _ => 0)), .inl (0, 7392, .inl (fun _ => 0)), .inl (0, 10, .inl (fun _ => 0)), .inl (0, 9, .inl (fun _ => 0)), .inl (0, 9, .inl (fun _ => 0)), .inl (0, 9, .inl (fun _ => 0)), .inr (4, [.ref 1, .ref 19, .ref 20, .int (-1 : Int32), .int 0, .int 0, .ref 21, .ref 22, .ref 23, .ref 24, .ref 25, .int 0, .ref 6, .ref 26, .ref 27, .ref 28]), .inl (0, 56, .inl (fun _ => 0)), .inl (0, 56, .inl (fun _ => 0)), .inl (0, 1056, .inl (fun _ => 0)), .inl (0, 1056, .inl (fun _ => 0)), .inl (0, 1056, .inl (fun _ => 0)), .inl (0, 7392, .inl (fun _ => 0)), .inl (0, 10, .inl (fun _ => 0)), .inl (0, 9, .inl (fun _ => 0)), .inl (0, 9, .inl (fun _ => 0)), .inl (0, 9, .inl (fun _ => 0)), .inr (4, [.ref 1, .ref 30, .ref 31, .int (-1 : Int32), .int 0, .int 0, .ref 32, .ref 33, .ref 34, .ref 35, .ref 36, .int 0, .ref 6, .ref 37, .ref 38, .ref 39]), .inl (0, 56, .inl (fun _ => 0)), .inl (0, 56, .inl (fun _ => 0)), .inl (0, 1056, .inl (fun _ => 0)), .inl (0, 1056, .inl (fun _ => 0)), .inl (0, 1056, .inl (fun _ => 0)), .inl (0, 7392, .inl (fun _ => 0)), .inl (0, 10, .inl (fun _ => 0)), .inl (0, 9, .inl (fun _ => 0)), .inl (0, 9, .inl (fun _ => 0)), .inl (0, 9, .inl (fun _ => 0))] [some (.ref 0), some (.ref 6)] [.ref 29, .ref 0]
  refine G_putF (w2 := [.inr (7, [.ref 1, .ref 7, .ref 18, .ref 29, .null, .null, .null, .null, .null, .null, .long 0, .long 0]), .inr (0, [.int 0, .int 0, .int 0, .ref 2, .ref 3, .ref 4, .ref 5]), .inl (0, 6, .inl (fun _ => 0)), .inl (0, 48, .inl (fun _ => 0)), .inl (0, 48, .inl c_likes), .inl (0, 32, .inl c_told), .inl (0, 4096, .inl (fun _ => 0)), .inr (4, [.ref 1, .ref 8, .ref 9, .int (-1 : Int32), .int 0, .int 0, .ref 10, .ref 11, .ref 12, .ref 13, .ref 14, .int 0, .ref 6, .ref 15, .ref 16, .ref 17]), .inl (0, 56, .inl (fun _ => 0)), .inl (0, 56, .inl (fun _ => 0)), .inl (0, 1056, .inl (fun _ => 0)), .inl (0, 1056, .inl (fun _ => 0)), .inl (0, 1056, .inl (fun _ => 0)), .inl (0, 7392, .inl (fun _ => 0)), .inl (0, 10, .inl (fun _ => 0)), .inl (0, 9, .inl (fun _ => 0)), .inl (0, 9, .inl (fun _ => 0)), .inl (0, 9, .inl (fun _ => 0)), .inr (4, [.ref 1, .ref 19, .ref 20, .int (-1 : Int32), .int 0, .int 0, .ref 21, .ref 22, .ref 23, .ref 24, .ref 25, .int 0, .ref 6, .ref 26, .ref 27, .ref 28]), .inl (0, 56, .inl (fun _ => 0)), .inl (0, 56, .inl (fun _ => 0)), .inl (0, 1056, .inl (fun _ => 0)), .inl (0, 1056, .inl (fun _ => 0)), .inl (0, 1056, .inl (fun _ => 0)), .inl (0, 7392, .inl (fun _ => 0)), .inl (0, 10, .inl (fun _ => 0)), .inl (0, 9, .inl (fun _ => 0)), .inl (0, 9, .inl (fun _ => 0)), .inl (0, 9, .inl (fun _ => 0)), .inr (4, [.ref 1, .ref 30, .ref 31, .int (-1 : Int32), .int 0, .int 0, .ref 32, .ref 33, .ref 34, .ref 35, .ref 36, .int 0, .ref 6, .ref 37, .ref 38, .ref 39]), .inl (0, 56, .inl (fun _ => 0)), .inl (0, 56, .inl (fun _ => 0)), .inl (0, 1056, .inl (fun _ => 0)), .inl (0, 1056, .inl (fun _ => 0)), .inl (0, 1056, .inl (fun _ => 0)), .inl (0, 7392, .inl (fun _ => 0)), .inl (0, 10, .inl (fun _ => 0)), .inl (0, 9, .inl (fun _ => 0)), .inl (0, 9, .inl (fun _ => 0)), .inl (0, 9, .inl (fun _ => 0))]) F_X7_28 rfl (fun _ _ _ h => by cases h; rfl) dX7_init_66 rfl rfl rfl (ltb rfl) rfl ?_
  refine G_aload_n dX7_init_69 rfl rfl ?_
  refine G_new (L := 40) N_X7_31 dX7_init_70 (fun _ => rfl) (lel (a' := 40) (b' := 60) rfl rfl rfl) (lel (a' := 36416) (b' := 40723) rfl rfl rfl) (roHi.nil rfl rfl) (leb rfl) rfl (fun δ => ?_)
  change GG _ _ _ _ _ _ 40 36416 _ [.inr (7, [.ref 1, .ref 7, .ref 18, .ref 29, .null, .null, .null, .null, .null, .null, .long 0, .long 0]), .inr (0, [.int 0, .int 0, .int 0, .ref 2, .ref 3, .ref 4, .ref 5]), .inl (0, 6, .inl (fun _ => 0)), .inl (0, 48, .inl (fun _ => 0)), .inl (0, 48, .inl c_likes), .inl (0, 32, .inl c_told), .inl (0, 4096, .inl (fun _ => 0)), .inr (4, [.ref 1, .ref 8, .ref 9, .int (-1 : Int32), .int 0, .int 0, .ref 10, .ref 11, .ref 12, .ref 13, .ref 14, .int 0, .ref 6, .ref 15, .ref 16, .ref 17]), .inl (0, 56, .inl (fun _ => 0)), .inl (0, 56, .inl (fun _ => 0)), .inl (0, 1056, .inl (fun _ => 0)), .inl (0, 1056, .inl (fun _ => 0)), .inl (0, 1056, .inl (fun _ => 0)), .inl (0, 7392, .inl (fun _ => 0)), .inl (0, 10, .inl (fun _ => 0)), .inl (0, 9, .inl (fun _ => 0)), .inl (0, 9, .inl (fun _ => 0)), .inl (0, 9, .inl (fun _ => 0)), .inr (4, [.ref 1, .ref 19, .ref 20, .int (-1 : Int32), .int 0, .int 0, .ref 21, .ref 22, .ref 23, .ref 24, .ref 25, .int 0, .ref 6, .ref 26, .ref 27, .ref 28]), .inl (0, 56, .inl (fun _ => 0)), .inl (0, 56, .inl (fun _ => 0)), .inl (0, 1056, .inl (fun _ => 0)), .inl (0, 1056, .inl (fun _ => 0)), .inl (0, 1056, .inl (fun _ => 0)), .inl (0, 7392, .inl (fun _ => 0)), .inl (0, 10, .inl (fun _ => 0)), .inl (0, 9, .inl (fun _ => 0)), .inl (0, 9, .inl (fun _ => 0)), .inl (0, 9, .inl (fun _ => 0)), .inr (4, [.ref 1, .ref 30, .ref 31, .int (-1 : Int32), .int 0, .int 0, .ref 32, .ref 33, .ref 34, .ref 35, .ref 36, .int 0, .ref 6, .ref 37, .ref 38, .ref 39]), .inl (0, 56, .inl (fun _ => 0)), .inl (0, 56, .inl (fun _ => 0)), .inl (0, 1056, .inl (fun _ => 0)), .inl (0, 1056, .inl (fun _ => 0)), .inl (0, 1056, .inl (fun _ => 0)), .inl (0, 7392, .inl (fun _ => 0)), .inl (0, 10, .inl (fun _ => 0)), .inl (0, 9, .inl (fun _ => 0)), .inl (0, 9, .inl (fun _ => 0)), .inl (0, 9, .inl (fun _ => 0)), .inr (5, [.null, .int 0, .null, .int 0])] [some (.ref 0), some (.ref 6)] [.ref 40, .ref 0]
  refine G_dup dX7_init_73 rfl ?_
  refine G_aload_n dX7_init_74 rfl rfl ?_
  refine G_get (v := .ref 1) F_X7_10 dX7_init_75 rfl rfl ?_
  refine G_callI (μ2 := mu_X5_init) (As := [.ref 1000]) (w2 := [.inr (7, [.ref 1, .ref 7, .ref 18, .ref 29, .null, .null, .null, .null, .null, .null, .long 0, .long 0]), .inr (0, [.int 0, .int 0, .int 0, .ref 2, .ref 3, .ref 4, .ref 5]), .inl (0, 6, .inl (fun _ => 0)), .inl (0, 48, .inl (fun _ => 0)), .inl (0, 48, .inl c_likes), .inl (0, 32, .inl c_told), .inl (0, 4096, .inl (fun _ => 0)), .inr (4, [.ref 1, .ref 8, .ref 9, .int (-1 : Int32), .int 0, .int 0, .ref 10, .ref 11, .ref 12, .ref 13, .ref 14, .int 0, .ref 6, .ref 15, .ref 16, .ref 17]), .inl (0, 56, .inl (fun _ => 0)), .inl (0, 56, .inl (fun _ => 0)), .inl (0, 1056, .inl (fun _ => 0)), .inl (0, 1056, .inl (fun _ => 0)), .inl (0, 1056, .inl (fun _ => 0)), .inl (0, 7392, .inl (fun _ => 0)), .inl (0, 10, .inl (fun _ => 0)), .inl (0, 9, .inl (fun _ => 0)), .inl (0, 9, .inl (fun _ => 0)), .inl (0, 9, .inl (fun _ => 0)), .inr (4, [.ref 1, .ref 19, .ref 20, .int (-1 : Int32), .int 0, .int 0, .ref 21, .ref 22, .ref 23, .ref 24, .ref 25, .int 0, .ref 6, .ref 26, .ref 27, .ref 28]), .inl (0, 56, .inl (fun _ => 0)), .inl (0, 56, .inl (fun _ => 0)), .inl (0, 1056, .inl (fun _ => 0)), .inl (0, 1056, .inl (fun _ => 0)), .inl (0, 1056, .inl (fun _ => 0)), .inl (0, 7392, .inl (fun _ => 0)), .inl (0, 10, .inl (fun _ => 0)), .inl (0, 9, .inl (fun _ => 0)), .inl (0, 9, .inl (fun _ => 0)), .inl (0, 9, .inl (fun _ => 0)), .inr (4, [.ref 1, .ref 30, .ref 31, .int (-1 : Int32), .int 0, .int 0, .ref 32, .ref 33, .ref 34, .ref 35, .ref 36, .int 0, .ref 6, .ref 37, .ref 38, .ref 39]), .inl (0, 56, .inl (fun _ => 0)), .inl (0, 56, .inl (fun _ => 0)), .inl (0, 1056, .inl (fun _ => 0)), .inl (0, 1056, .inl (fun _ => 0)), .inl (0, 1056, .inl (fun _ => 0)), .inl (0, 7392, .inl (fun _ => 0)), .inl (0, 10, .inl (fun _ => 0)), .inl (0, 9, .inl (fun _ => 0)), .inl (0, 9, .inl (fun _ => 0)), .inl (0, 9, .inl (fun _ => 0)), .inr (5, [.ref 1, .int 0, .ref 41, .int 0]), .inl (0, 8, .inl (fun _ => 0))]) (wc := [.inr (5, [.null, .int 0, .null, .int 0])]) (wc2 := wi_X5) (rest := [.ref 40, .ref 0]) [40] [1] [0, 1, 2, 3, 4, 5, 6, 7, 8, 9, 10, 11, 12, 13, 14, 15, 16, 17, 18, 19, 20, 21, 22, 23, 24, 25, 26, 27, 28, 29, 30, 31, 32, 33, 34, 35, 36, 37, 38, 39] [0, 1, 2, 3, 4, 5, 6, 7, 8, 9, 10, 11, 12, 13, 14, 15, 16, 17, 18, 19, 20, 21, 22, 23, 24, 25, 26, 27, 28, 29, 30, 31, 32, 33, 34, 35, 36, 37, 38, 39, 40, 41] (c_X5_init) cwi_X5 m_X7_33 dX7_init_78 rfl ⟨leb rfl, leb rfl⟩ ⟨lel (a' := 41) (b' := 60) rfl rfl rfl, lel (a' := 36424) (b' := 40723) rfl rfl rfl⟩ (roHi.nil rfl rfl) ⟨rfl, rfl⟩ (leb rfl) rfl rfl (fun _ => rfl) rfl (leb rfl) rfl (fun δ => ?_)
  change GG _ _ _ _ _ _ 41 36424 _ [.inr (7, [.ref 1, .ref 7, .ref 18, .ref 29, .null, .null, .null, .null, .null, .null, .long 0, .long 0]), .inr (0, [.int 0, .int 0, .int 0, .ref 2, .ref 3, .ref 4, .ref 5]), .inl (0, 6, .inl (fun _ => 0)), .inl (0, 48, .inl (fun _ => 0)), .inl (0, 48, .inl c_likes), .inl (0, 32, .inl c_told), .inl (0, 4096, .inl (fun _ => 0)), .inr (4, [.ref 1, .ref 8, .ref 9, .int (-1 : Int32), .int 0, .int 0, .ref 10, .ref 11, .ref 12, .ref 13, .ref 14, .int 0, .ref 6, .ref 15, .ref 16, .ref 17]), .inl (0, 56, .inl (fun _ => 0)), .inl (0, 56, .inl (fun _ => 0)), .inl (0, 1056, .inl (fun _ => 0)), .inl (0, 1056, .inl (fun _ => 0)), .inl (0, 1056, .inl (fun _ => 0)), .inl (0, 7392, .inl (fun _ => 0)), .inl (0, 10, .inl (fun _ => 0)), .inl (0, 9, .inl (fun _ => 0)), .inl (0, 9, .inl (fun _ => 0)), .inl (0, 9, .inl (fun _ => 0)), .inr (4, [.ref 1, .ref 19, .ref 20, .int (-1 : Int32), .int 0, .int 0, .ref 21, .ref 22, .ref 23, .ref 24, .ref 25, .int 0, .ref 6, .ref 26, .ref 27, .ref 28]), .inl (0, 56, .inl (fun _ => 0)), .inl (0, 56, .inl (fun _ => 0)), .inl (0, 1056, .inl (fun _ => 0)), .inl (0, 1056, .inl (fun _ => 0)), .inl (0, 1056, .inl (fun _ => 0)), .inl (0, 7392, .inl (fun _ => 0)), .inl (0, 10, .inl (fun _ => 0)), .inl (0, 9, .inl (fun _ => 0)), .inl (0, 9, .inl (fun _ => 0)), .inl (0, 9, .inl (fun _ => 0)), .inr (4, [.ref 1, .ref 30, .ref 31, .int (-1 : Int32), .int 0, .int 0, .ref 32, .ref 33, .ref 34, .ref 35, .ref 36, .int 0, .ref 6, .ref 37, .ref 38, .ref 39]), .inl (0, 56, .inl (fun _ => 0)), .inl (0, 56, .inl (fun _ => 0)), .inl (0, 1056, .inl (fun _ => 0)), .inl (0, 1056, .inl (fun _ => 0)), .inl (0, 1056, .inl (fun _ => 0)), .inl (0, 7392, .inl (fun _ => 0)), .inl (0, 10, .inl (fun _ => 0)), .inl (0, 9, .inl (fun _ => 0)), .inl (0, 9, .inl (fun _ => 0)), .inl (0, 9, .inl (fun _ => 0)), .inr (5, [.ref 1, .int 0, .ref 41, .int 0]), .inl (0, 8, .inl (fun _ => 0))] [some (.ref 0), some (.ref 6)] [.ref 40, .ref 0]
  refine G_putF (w2 := [.inr (7, [.ref 1, .ref 7, .ref 18, .ref 29, .ref 40, .null, .null, .null, .null, .null, .long 0, .long 0]), .inr (0, [.int 0, .int 0, .int 0, .ref 2, .ref 3, .ref 4, .ref 5]), .inl (0, 6, .inl (fun _ => 0)), .inl (0, 48, .inl (fun _ => 0)), .inl (0, 48, .inl c_likes), .inl (0, 32, .inl c_told), .inl (0, 4096, .inl (fun _ => 0)), .inr (4, [.ref 1, .ref 8, .ref 9, .int (-1 : Int32), .int 0, .int 0, .ref 10, .ref 11, .ref 12, .ref 13, .ref 14, .int 0, .ref 6, .ref 15, .ref 16, .ref 17]), .inl (0, 56, .inl (fun _ => 0)), .inl (0, 56, .inl (fun _ => 0)), .inl (0, 1056, .inl (fun _ => 0)), .inl (0, 1056, .inl (fun _ => 0)), .inl (0, 1056, .inl (fun _ => 0)), .inl (0, 7392, .inl (fun _ => 0)), .inl (0, 10, .inl (fun _ => 0)), .inl (0, 9, .inl (fun _ => 0)), .inl (0, 9, .inl (fun _ => 0)), .inl (0, 9, .inl (fun _ => 0)), .inr (4, [.ref 1, .ref 19, .ref 20, .int (-1 : Int32), .int 0, .int 0, .ref 21, .ref 22, .ref 23, .ref 24, .ref 25, .int 0, .ref 6, .ref 26, .ref 27, .ref 28]), .inl (0, 56, .inl (fun _ => 0)), .inl (0, 56, .inl (fun _ => 0)), .inl (0, 1056, .inl (fun _ => 0)), .inl (0, 1056, .inl (fun _ => 0)), .inl (0, 1056, .inl (fun _ => 0)), .inl (0, 7392, .inl (fun _ => 0)), .inl (0, 10, .inl (fun _ => 0)), .inl (0, 9, .inl (fun _ => 0)), .inl (0, 9, .inl (fun _ => 0)), .inl (0, 9, .inl (fun _ => 0)), .inr (4, [.ref 1, .ref 30, .ref 31, .int (-1 : Int32), .int 0, .int 0, .ref 32, .ref 33, .ref 34, .ref 35, .ref 36, .int 0, .ref 6, .ref 37, .ref 38, .ref 39]), .inl (0, 56, .inl (fun _ => 0)), .inl (0, 56, .inl (fun _ => 0)), .inl (0, 1056, .inl (fun _ => 0)), .inl (0, 1056, .inl (fun _ => 0)), .inl (0, 1056, .inl (fun _ => 0)), .inl (0, 7392, .inl (fun _ => 0)), .inl (0, 10, .inl (fun _ => 0)), .inl (0, 9, .inl (fun _ => 0)), .inl (0, 9, .inl (fun _ => 0)), .inl (0, 9, .inl (fun _ => 0)), .inr (5, [.ref 1, .int 0, .ref 41, .int 0]), .inl (0, 8, .inl (fun _ => 0))]) F_X7_36 rfl (fun _ _ _ h => by cases h; rfl) dX7_init_81 rfl rfl rfl (ltb rfl) rfl ?_
  refine G_aload_n dX7_init_84 rfl rfl ?_
  refine G_new (L := 42) N_X7_40 dX7_init_85 (fun _ => rfl) (lel (a' := 42) (b' := 60) rfl rfl rfl) (lel (a' := 36430) (b' := 40723) rfl rfl rfl) (roHi.nil rfl rfl) (leb rfl) rfl (fun δ => ?_)
  change GG _ _ _ _ _ _ 42 36430 _ [.inr (7, [.ref 1, .ref 7, .ref 18, .ref 29, .ref 40, .null, .null, .null, .null, .null, .long 0, .long 0]), .inr (0, [.int 0, .int 0, .int 0, .ref 2, .ref 3, .ref 4, .ref 5]), .inl (0, 6, .inl (fun _ => 0)), .inl (0, 48, .inl (fun _ => 0)), .inl (0, 48, .inl c_likes), .inl (0, 32, .inl c_told), .inl (0, 4096, .inl (fun _ => 0)), .inr (4, [.ref 1, .ref 8, .ref 9, .int (-1 : Int32), .int 0, .int 0, .ref 10, .ref 11, .ref 12, .ref 13, .ref 14, .int 0, .ref 6, .ref 15, .ref 16, .ref 17]), .inl (0, 56, .inl (fun _ => 0)), .inl (0, 56, .inl (fun _ => 0)), .inl (0, 1056, .inl (fun _ => 0)), .inl (0, 1056, .inl (fun _ => 0)), .inl (0, 1056, .inl (fun _ => 0)), .inl (0, 7392, .inl (fun _ => 0)), .inl (0, 10, .inl (fun _ => 0)), .inl (0, 9, .inl (fun _ => 0)), .inl (0, 9, .inl (fun _ => 0)), .inl (0, 9, .inl (fun _ => 0)), .inr (4, [.ref 1, .ref 19, .ref 20, .int (-1 : Int32), .int 0, .int 0, .ref 21, .ref 22, .ref 23, .ref 24, .ref 25, .int 0, .ref 6, .ref 26, .ref 27, .ref 28]), .inl (0, 56, .inl (fun _ => 0)), .inl (0, 56, .inl (fun _ => 0)), .inl (0, 1056, .inl (fun _ => 0)), .inl (0, 1056, .inl (fun _ => 0)), .inl (0, 1056, .inl (fun _ => 0)), .inl (0, 7392, .inl (fun _ => 0)), .inl (0, 10, .inl (fun _ => 0)), .inl (0, 9, .inl (fun _ => 0)), .inl (0, 9, .inl (fun _ => 0)), .inl (0, 9, .inl (fun _ => 0)), .inr (4, [.ref 1, .ref 30, .ref 31, .int (-1 : Int32), .int 0, .int 0, .ref 32, .ref 33, .ref 34, .ref 35, .ref 36, .int 0, .ref 6, .ref 37, .ref 38, .ref 39]), .inl (0, 56, .inl (fun _ => 0)), .inl (0, 56, .inl (fun _ => 0)), .inl (0, 1056, .inl (fun _ => 0)), .inl (0, 1056, .inl (fun _ => 0)), .inl (0, 1056, .inl (fun _ => 0)), .inl (0, 7392, .inl (fun _ => 0)), .inl (0, 10, .inl (fun _ => 0)), .inl (0, 9, .inl (fun _ => 0)), .inl (0, 9, .inl (fun _ => 0)), .inl (0, 9, .inl (fun _ => 0)), .inr (5, [.ref 1, .int 0, .ref 41, .int 0]), .inl (0, 8, .inl (fun _ => 0)), .inr (6, [.null, .null, .null, .null, .null, .null])] [some (.ref 0), some (.ref 6)] [.ref 42, .ref 0]
  refine G_dup dX7_init_88 rfl ?_
  refine G_aload_n dX7_init_89 rfl rfl ?_
  refine G_get (v := .ref 1) F_X7_10 dX7_init_90 rfl rfl ?_
  refine G_callI (μ2 := mu_X6_init) (As := [.ref 1000]) (w2 := [.inr (7, [.ref 1, .ref 7, .ref 18, .ref 29, .ref 40, .null, .null, .null, .null, .null, .long 0, .long 0]), .inr (0, [.int 0, .int 0, .int 0, .ref 2, .ref 3, .ref 4, .ref 5]), .inl (0, 6, .inl (fun _ => 0)), .inl (0, 48, .inl (fun _ => 0)), .inl (0, 48, .inl c_likes), .inl (0, 32, .inl c_told), .inl (0, 4096, .inl (fun _ => 0)), .inr (4, [.ref 1, .ref 8, .ref 9, .int (-1 : Int32), .int 0, .int 0, .ref 10, .ref 11, .ref 12, .ref 13, .ref 14, .int 0, .ref 6, .ref 15, .ref 16, .ref 17]), .inl (0, 56, .inl (fun _ => 0)), .inl (0, 56, .inl (fun _ => 0)), .inl (0, 1056, .inl (fun _ => 0)), .inl (0, 1056, .inl (fun _ => 0)), .inl (0, 1056, .inl (fun _ => 0)), .inl (0, 7392, .inl (fun _ => 0)), .inl (0, 10, .inl (fun _ => 0)), .inl (0, 9, .inl (fun _ => 0)), .inl (0, 9, .inl (fun _ => 0)), .inl (0, 9, .inl (fun _ => 0)), .inr (4, [.ref 1, .ref 19, .ref 20, .int (-1 : Int32), .int 0, .int 0, .ref 21, .ref 22, .ref 23, .ref 24, .ref 25, .int 0, .ref 6, .ref 26, .ref 27, .ref 28]), .inl (0, 56, .inl (fun _ => 0)), .inl (0, 56, .inl (fun _ => 0)), .inl (0, 1056, .inl (fun _ => 0)), .inl (0, 1056, .inl (fun _ => 0)), .inl (0, 1056, .inl (fun _ => 0)), .inl (0, 7392, .inl (fun _ => 0)), .inl (0, 10, .inl (fun _ => 0)), .inl (0, 9, .inl (fun _ => 0)), .inl (0, 9, .inl (fun _ => 0)), .inl (0, 9, .inl (fun _ => 0)), .inr (4, [.ref 1, .ref 30, .ref 31, .int (-1 : Int32), .int 0, .int 0, .ref 32, .ref 33, .ref 34, .ref 35, .ref 36, .int 0, .ref 6, .ref 37, .ref 38, .ref 39]), .inl (0, 56, .inl (fun _ => 0)), .inl (0, 56, .inl (fun _ => 0)), .inl (0, 1056, .inl (fun _ => 0)), .inl (0, 1056, .inl (fun _ => 0)), .inl (0, 1056, .inl (fun _ => 0)), .inl (0, 7392, .inl (fun _ => 0)), .inl (0, 10, .inl (fun _ => 0)), .inl (0, 9, .inl (fun _ => 0)), .inl (0, 9, .inl (fun _ => 0)), .inl (0, 9, .inl (fun _ => 0)), .inr (5, [.ref 1, .int 0, .ref 41, .int 0]), .inl (0, 8, .inl (fun _ => 0)), .inr (6, [.ref 1, .ref 43, .ref 44, .ref 45, .ref 46, .ref 47]), .inl (0, 8, .inl (fun _ => 0)), .inl (0, 8, .inl (fun _ => 0)), .inl (0, 8, .inl (fun _ => 0)), .inl (0, 8, .inl (fun _ => 0)), .inl (0, 6, .inl (fun _ => 0))]) (wc := [.inr (6, [.null, .null, .null, .null, .null, .null])]) (wc2 := wi_X6) (rest := [.ref 42, .ref 0]) [42] [1] [0, 1, 2, 3, 4, 5, 6, 7, 8, 9, 10, 11, 12, 13, 14, 15, 16, 17, 18, 19, 20, 21, 22, 23, 24, 25, 26, 27, 28, 29, 30, 31, 32, 33, 34, 35, 36, 37, 38, 39, 40, 41] [0, 1, 2, 3, 4, 5, 6, 7, 8, 9, 10, 11, 12, 13, 14, 15, 16, 17, 18, 19, 20, 21, 22, 23, 24, 25, 26, 27, 28, 29, 30, 31, 32, 33, 34, 35, 36, 37, 38, 39, 40, 41, 42, 43, 44, 45, 46, 47] (c_X6_init) cwi_X6 m_X7_42 dX7_init_93 rfl ⟨leb rfl, leb rfl⟩ ⟨lel (a' := 47) (b' := 60) rfl rfl rfl, lel (a' := 36468) (b' := 40723) rfl rfl rfl⟩ (roHi.nil rfl rfl) ⟨rfl, rfl⟩ (leb rfl) rfl rfl (fun _ => rfl) rfl (leb rfl) rfl (fun δ => ?_)
  change GG _ _ _ _ _ _ 47 36468 _ [.inr (7, [.ref 1, .ref 7, .ref 18, .ref 29, .ref 40, .null, .null, .null, .null, .null, .long 0, .long 0]), .inr (0, [.int 0, .int 0, .int 0, .ref 2, .ref 3, .ref 4, .ref 5]), .inl (0, 6, .inl (fun _ => 0)), .inl (0, 48, .inl (fun _ => 0)), .inl (0, 48, .inl c_likes), .inl (0, 32, .inl c_told), .inl (0, 4096, .inl (fun _ => 0)), .inr (4, [.ref 1, .ref 8, .ref 9, .int (-1 : Int32), .int 0, .int 0, .ref 10, .ref 11, .ref 12, .ref 13, .ref 14, .int 0, .ref 6, .ref 15, .ref 16, .ref 17]), .inl (0, 56, .inl (fun _ => 0)), .inl (0, 56, .inl (fun _ => 0)), .inl (0, 1056, .inl (fun _ => 0)), .inl (0, 1056, .inl (fun _ => 0)), .inl (0, 1056, .inl (fun _ => 0)), .inl (0, 7392, .inl (fun _ => 0)), .inl (0, 10, .inl (fun _ => 0)), .inl (0, 9, .inl (fun _ => 0)), .inl (0, 9, .inl (fun _ => 0)), .inl (0, 9, .inl (fun _ => 0)), .inr (4, [.ref 1, .ref 19, .ref 20, .int (-1 : Int32), .int 0, .int 0, .ref 21, .ref 22, .ref 23, .ref 24, .ref 25, .int 0, .ref 6, .ref 26, .ref 27, .ref 28]), .inl (0, 56, .inl (fun _ => 0)), .inl (0, 56, .inl (fun _ => 0)), .inl (0, 1056, .inl (fun _ => 0)), .inl (0, 1056, .inl (fun _ => 0)), .inl (0, 1056, .inl (fun _ => 0)), .inl (0, 7392, .inl (fun _ => 0)), .inl (0, 10, .inl (fun _ => 0)), .inl (0, 9, .inl (fun _ => 0)), .inl (0, 9, .inl (fun _ => 0)), .inl (0, 9, .inl (fun _ => 0)), .inr (4, [.ref 1, .ref 30, .ref 31, .int (-1 : Int32), .int 0, .int 0, .ref 32, .ref 33, .ref 34, .ref 35, .ref 36, .int 0, .ref 6, .ref 37, .ref 38, .ref 39]), .inl (0, 56, .inl (fun _ => 0)), .inl (0, 56, .inl (fun _ => 0)), .inl (0, 1056, .inl (fun _ => 0)), .inl (0, 1056, .inl (fun _ => 0)), .inl (0, 1056, .inl (fun _ => 0)), .inl (0, 7392, .inl (fun _ => 0)), .inl (0, 10, .inl (fun _ => 0)), .inl (0, 9, .inl (fun _ => 0)), .inl (0, 9, .inl (fun _ => 0)), .inl (0, 9, .inl (fun _ => 0)), .inr (5, [.ref 1, .int 0, .ref 41, .int 0]), .inl (0, 8, .inl (fun _ => 0)), .inr (6, [.ref 1, .ref 43, .ref 44, .ref 45, .ref 46, .ref 47]), .inl (0, 8, .inl (fun _ => 0)), .inl (0, 8, .inl (fun _ => 0)), .inl (0, 8, .inl (fun _ => 0)), .inl (0, 8, .inl (fun _ => 0)), .inl (0, 6, .inl (fun _ => 0))] [some (.ref 0), some (.ref 6)] [.ref 42, .ref 0]
  refine G_putF (w2 := [.inr (7, [.ref 1, .ref 7, .ref 18, .ref 29, .ref 40, .ref 42, .null, .null, .null, .null, .long 0, .long 0]), .inr (0, [.int 0, .int 0, .int 0, .ref 2, .ref 3, .ref 4, .ref 5]), .inl (0, 6, .inl (fun _ => 0)), .inl (0, 48, .inl (fun _ => 0)), .inl (0, 48, .inl c_likes), .inl (0, 32, .inl c_told), .inl (0, 4096, .inl (fun _ => 0)), .inr (4, [.ref 1, .ref 8, .ref 9, .int (-1 : Int32), .int 0, .int 0, .ref 10, .ref 11, .ref 12, .ref 13, .ref 14, .int 0, .ref 6, .ref 15, .ref 16, .ref 17]), .inl (0, 56, .inl (fun _ => 0)), .inl (0, 56, .inl (fun _ => 0)), .inl (0, 1056, .inl (fun _ => 0)), .inl (0, 1056, .inl (fun _ => 0)), .inl (0, 1056, .inl (fun _ => 0)), .inl (0, 7392, .inl (fun _ => 0)), .inl (0, 10, .inl (fun _ => 0)), .inl (0, 9, .inl (fun _ => 0)), .inl (0, 9, .inl (fun _ => 0)), .inl (0, 9, .inl (fun _ => 0)), .inr (4, [.ref 1, .ref 19, .ref 20, .int (-1 : Int32), .int 0, .int 0, .ref 21, .ref 22, .ref 23, .ref 24, .ref 25, .int 0, .ref 6, .ref 26, .ref 27, .ref 28]), .inl (0, 56, .inl (fun _ => 0)), .inl (0, 56, .inl (fun _ => 0)), .inl (0, 1056, .inl (fun _ => 0)), .inl (0, 1056, .inl (fun _ => 0)), .inl (0, 1056, .inl (fun _ => 0)), .inl (0, 7392, .inl (fun _ => 0)), .inl (0, 10, .inl (fun _ => 0)), .inl (0, 9, .inl (fun _ => 0)), .inl (0, 9, .inl (fun _ => 0)), .inl (0, 9, .inl (fun _ => 0)), .inr (4, [.ref 1, .ref 30, .ref 31, .int (-1 : Int32), .int 0, .int 0, .ref 32, .ref 33, .ref 34, .ref 35, .ref 36, .int 0, .ref 6, .ref 37, .ref 38, .ref 39]), .inl (0, 56, .inl (fun _ => 0)), .inl (0, 56, .inl (fun _ => 0)), .inl (0, 1056, .inl (fun _ => 0)), .inl (0, 1056, .inl (fun _ => 0)), .inl (0, 1056, .inl (fun _ => 0)), .inl (0, 7392, .inl (fun _ => 0)), .inl (0, 10, .inl (fun _ => 0)), .inl (0, 9, .inl (fun _ => 0)), .inl (0, 9, .inl (fun _ => 0)), .inl (0, 9, .inl (fun _ => 0)), .inr (5, [.ref 1, .int 0, .ref 41, .int 0]), .inl (0, 8, .inl (fun _ => 0)), .inr (6, [.ref 1, .ref 43, .ref 44, .ref 45, .ref 46, .ref 47]), .inl (0, 8, .inl (fun _ => 0)), .inl (0, 8, .inl (fun _ => 0)), .inl (0, 8, .inl (fun _ => 0)), .inl (0, 8, .inl (fun _ => 0)), .inl (0, 6, .inl (fun _ => 0))]) F_X7_43 rfl (fun _ _ _ h => by cases h; rfl) dX7_init_96 rfl rfl rfl (ltb rfl) rfl ?_
  refine G_aload_n dX7_init_99 rfl rfl ?_
  refine G_new (L := 48) N_X7_47 dX7_init_100 (fun _ => rfl) (lel (a' := 48) (b' := 60) rfl rfl rfl) (lel (a' := 36472) (b' := 40723) rfl rfl rfl) (roHi.nil rfl rfl) (leb rfl) rfl (fun δ => ?_)
  change GG _ _ _ _ _ _ 48 36472 _ [.inr (7, [.ref 1, .ref 7, .ref 18, .ref 29, .ref 40, .ref 42, .null, .null, .null, .null, .long 0, .long 0]), .inr (0, [.int 0, .int 0, .int 0, .ref 2, .ref 3, .ref 4, .ref 5]), .inl (0, 6, .inl (fun _ => 0)), .inl (0, 48, .inl (fun _ => 0)), .inl (0, 48, .inl c_likes), .inl (0, 32, .inl c_told), .inl (0, 4096, .inl (fun _ => 0)), .inr (4, [.ref 1, .ref 8, .ref 9, .int (-1 : Int32), .int 0, .int 0, .ref 10, .ref 11, .ref 12, .ref 13, .ref 14, .int 0, .ref 6, .ref 15, .ref 16, .ref 17]), .inl (0, 56, .inl (fun _ => 0)), .inl (0, 56, .inl (fun _ => 0)), .inl (0, 1056, .inl (fun _ => 0)), .inl (0, 1056, .inl (fun _ => 0)), .inl (0, 1056, .inl (fun _ => 0)), .inl (0, 7392, .inl (fun _ => 0)), .inl (0, 10, .inl (fun _ => 0)), .inl (0, 9, .inl (fun _ => 0)), .inl (0, 9, .inl (fun _ => 0)), .inl (0, 9, .inl (fun _ => 0)), .inr (4, [.ref 1, .ref 19, .ref 20, .int (-1 : Int32), .int 0, .int 0, .ref 21, .ref 22, .ref 23, .ref 24, .ref 25, .int 0, .ref 6, .ref 26, .ref 27, .ref 28]), .inl (0, 56, .inl (fun _ => 0)), .inl (0, 56, .inl (fun _ => 0)), .inl (0, 1056, .inl (fun _ => 0)), .inl (0, 1056, .inl (fun _ => 0)), .inl (0, 1056, .inl (fun _ => 0)), .inl (0, 7392, .inl (fun _ => 0)), .inl (0, 10, .inl (fun _ => 0)), .inl (0, 9, .inl (fun _ => 0)), .inl (0, 9, .inl (fun _ => 0)), .inl (0, 9, .inl (fun _ => 0)), .inr (4, [.ref 1, .ref 30, .ref 31, .int (-1 : Int32), .int 0, .int 0, .ref 32, .ref 33, .ref 34, .ref 35, .ref 36, .int 0, .ref 6, .ref 37, .ref 38, .ref 39]), .inl (0, 56, .inl (fun _ => 0)), .inl (0, 56, .inl (fun _ => 0)), .inl (0, 1056, .inl (fun _ => 0)), .inl (0, 1056, .inl (fun _ => 0)), .inl (0, 1056, .inl (fun _ => 0)), .inl (0, 7392, .inl (fun _ => 0)), .inl (0, 10, .inl (fun _ => 0)), .inl (0, 9, .inl (fun _ => 0)), .inl (0, 9, .inl (fun _ => 0)), .inl (0, 9, .inl (fun _ => 0)), .inr (5, [.ref 1, .int 0, .ref 41, .int 0]), .inl (0, 8, .inl (fun _ => 0)), .inr (6, [.ref 1, .ref 43, .ref 44, .ref 45, .ref 46, .ref 47]), .inl (0, 8, .inl (fun _ => 0)), .inl (0, 8, .inl (fun _ => 0)), .inl (0, 8, .inl (fun _ => 0)), .inl (0, 8, .inl (fun _ => 0)), .inl (0, 6, .inl (fun _ => 0)), .inr (3, [.null, .null, .int 0, .null])] [some (.ref 0), some (.ref 6)] [.ref 48, .ref 0]
  refine G_dup dX7_init_103 rfl ?_
  refine G_aload_n dX7_init_104 rfl rfl ?_
  refine G_get (v := .ref 1) F_X7_10 dX7_init_105 rfl rfl ?_
  refine G_callI (μ2 := mu_X3_init) (As := [.ref 1000]) (w2 := [.inr (7, [.ref 1, .ref 7, .ref 18, .ref 29, .ref 40, .ref 42, .null, .null, .null, .null, .long 0, .long 0]), .inr (0, [.int 0, .int 0, .int 0, .ref 2, .ref 3, .ref 4, .ref 5]), .inl (0, 6, .inl (fun _ => 0)), .inl (0, 48, .inl (fun _ => 0)), .inl (0, 48, .inl c_likes), .inl (0, 32, .inl c_told), .inl (0, 4096, .inl (fun _ => 0)), .inr (4, [.ref 1, .ref 8, .ref 9, .int (-1 : Int32), .int 0, .int 0, .ref 10, .ref 11, .ref 12, .ref 13, .ref 14, .int 0, .ref 6, .ref 15, .ref 16, .ref 17]), .inl (0, 56, .inl (fun _ => 0)), .inl (0, 56, .inl (fun _ => 0)), .inl (0, 1056, .inl (fun _ => 0)), .inl (0, 1056, .inl (fun _ => 0)), .inl (0, 1056, .inl (fun _ => 0)), .inl (0, 7392, .inl (fun _ => 0)), .inl (0, 10, .inl (fun _ => 0)), .inl (0, 9, .inl (fun _ => 0)), .inl (0, 9, .inl (fun _ => 0)), .inl (0, 9, .inl (fun _ => 0)), .inr (4, [.ref 1, .ref 19, .ref 20, .int (-1 : Int32), .int 0, .int 0, .ref 21, .ref 22, .ref 23, .ref 24, .ref 25, .int 0, .ref 6, .ref 26, .ref 27, .ref 28]), .inl (0, 56, .inl (fun _ => 0)), .inl (0, 56, .inl (fun _ => 0)), .inl (0, 1056, .inl (fun _ => 0)), .inl (0, 1056, .inl (fun _ => 0)), .inl (0, 1056, .inl (fun _ => 0)), .inl (0, 7392, .inl (fun _ => 0)), .inl (0, 10, .inl (fun _ => 0)), .inl (0, 9, .inl (fun _ => 0)), .inl (0, 9, .inl (fun _ => 0)), .inl (0, 9, .inl (fun _ => 0)), .inr (4, [.ref 1, .ref 30, .ref 31, .int (-1 : Int32), .int 0, .int 0, .ref 32, .ref 33, .ref 34, .ref 35, .ref 36, .int 0, .ref 6, .ref 37, .ref 38, .ref 39]), .inl (0, 56, .inl (fun _ => 0)), .inl (0, 56, .inl (fun _ => 0)), .inl (0, 1056, .inl (fun _ => 0)), .inl (0, 1056, .inl (fun _ => 0)), .inl (0, 1056, .inl (fun _ => 0)), .inl (0, 7392, .inl (fun _ => 0)), .inl (0, 10, .inl (fun _ => 0)), .inl (0, 9, .inl (fun _ => 0)), .inl (0, 9, .inl (fun _ => 0)), .inl (0, 9, .inl (fun _ => 0)), .inr (5, [.ref 1, .int 0, .ref 41, .int 0]), .inl (0, 8, .inl (fun _ => 0)), .inr (6, [.ref 1, .ref 43, .ref 44, .ref 45, .ref 46, .ref 47]), .inl (0, 8, .inl (fun _ => 0)), .inl (0, 8, .inl (fun _ => 0)), .inl (0, 8, .inl (fun _ => 0)), .inl (0, 8, .inl (fun _ => 0)), .inl (0, 6, .inl (fun _ => 0)), .inr (3, [.ref 1, .ref 49, .int 0, .ref 50]), .inl (0, 8, .inl (fun _ => 0)), .inl (0, 8, .inl (fun _ => 0))]) (wc := [.inr (3, [.null, .null, .int 0, .null])]) (wc2 := wi_X3) (rest := [.ref 48, .ref 0]) [48] [1] [0, 1, 2, 3, 4, 5, 6, 7, 8, 9, 10, 11, 12, 13, 14, 15, 16, 17, 18, 19, 20, 21, 22, 23, 24, 25, 26, 27, 28, 29, 30, 31, 32, 33, 34, 35, 36, 37, 38, 39, 40, 41, 42, 43, 44, 45, 46, 47] [0, 1, 2, 3, 4, 5, 6, 7, 8, 9, 10, 11, 12, 13, 14, 15, 16, 17, 18, 19, 20, 21, 22, 23, 24, 25, 26, 27, 28, 29, 30, 31, 32, 33, 34, 35, 36, 37, 38, 39, 40, 41, 42, 43, 44, 45, 46, 47, 48, 49, 50] (c_X3_init) cwi_X3 m_X7_49 dX7_init_108 rfl ⟨leb rfl, leb rfl⟩ ⟨lel (a' := 50) (b' := 60) rfl rfl rfl, lel (a' := 36488) (b' := 40723) rfl rfl rfl⟩ (roHi.nil rfl rfl) ⟨rfl, rfl⟩ (leb rfl) rfl rfl (fun _ => rfl) rfl (leb rfl) rfl (fun δ => ?_)
  change GG _ _ _ _ _ _ 50 36488 _ [.inr (7, [.ref 1, .ref 7, .ref 18, .ref 29, .ref 40, .ref 42, .null, .null, .null, .null, .long 0, .long 0]), .inr (0, [.int 0, .int 0, .int 0, .ref 2, .ref 3, .ref 4, .ref 5]), .inl (0, 6, .inl (fun _ => 0)), .inl (0, 48, .inl (fun _ => 0)), .inl (0, 48, .inl c_likes), .inl (0, 32, .inl c_told), .inl (0, 4096, .inl (fun _ => 0)), .inr (4, [.ref 1, .ref 8, .ref 9, .int (-1 : Int32), .int 0, .int 0, .ref 10, .ref 11, .ref 12, .ref 13, .ref 14, .int 0, .ref 6, .ref 15, .ref 16, .ref 17]), .inl (0, 56, .inl (fun _ => 0)), .inl (0, 56, .inl (fun _ => 0)), .inl (0, 1056, .inl (fun _ => 0)), .inl (0, 1056, .inl (fun _ => 0)), .inl (0, 1056, .inl (fun _ => 0)), .inl (0, 7392, .inl (fun _ => 0)), .inl (0, 10, .inl (fun _ => 0)), .inl (0, 9, .inl (fun _ => 0)), .inl (0, 9, .inl (fun _ => 0)), .inl (0, 9, .inl (fun _ => 0)), .inr (4, [.ref 1, .ref 19, .ref 20, .int (-1 : Int32), .int 0, .int 0, .ref 21, .ref 22, .ref 23, .ref 24, .ref 25, .int 0, .ref 6, .ref 26, .ref 27, .ref 28]), .inl (0, 56, .inl (fun _ => 0)), .inl (0, 56, .inl (fun _ => 0)), .inl (0, 1056, .inl (fun _ => 0)), .inl (0, 1056, .inl (fun _ => 0)), .inl (0, 1056, .inl (fun _ => 0)), .inl (0, 7392, .inl (fun _ => 0)), .inl (0, 10, .inl (fun _ => 0)), .inl (0, 9, .inl (fun _ => 0)), .inl (0, 9, .inl (fun _ => 0)), .inl (0, 9, .inl (fun _ => 0)), .inr (4, [.ref 1, .ref 30, .ref 31, .int (-1 : Int32), .int 0, .int 0, .ref 32, .ref 33, .ref 34, .ref 35, .ref 36, .int 0, .ref 6, .ref 37, .ref 38, .ref 39]), .inl (0, 56, .inl (fun _ => 0)), .inl (0, 56, .inl (fun _ => 0)), .inl (0, 1056, .inl (fun _ => 0)), .inl (0, 1056, .inl (fun _ => 0)), .inl (0, 1056, .inl (fun _ => 0)), .inl (0, 7392, .inl (fun _ => 0)), .inl (0, 10, .inl (fun _ => 0)), .inl (0, 9, .inl (fun _ => 0)), .inl (0, 9, .inl (fun _ => 0)), .inl (0, 9, .inl (fun _ => 0)), .inr (5, [.ref 1, .int 0, .ref 41, .int 0]), .inl (0, 8, .inl (fun _ => 0)), .inr (6, [.ref 1, .ref 43, .ref 44, .ref 45, .ref 46, .ref 47]), .inl (0, 8, .inl (fun _ => 0)), .inl (0, 8, .inl (fun _ => 0)), .inl (0, 8, .inl (fun _ => 0)), .inl (0, 8, .inl (fun _ => 0)), .inl (0, 6, .inl (fun _ => 0)), .inr (3, [.ref 1, .ref 49, .int 0, .ref 50]), .inl (0, 8, .inl (fun _ => 0)), .inl (0, 8, .inl (fun _ => 0))] [some (.ref 0), some (.ref 6)] [.ref 48, .ref 0]
  refine G_putF (w2 := [.inr (7, [.ref 1, .ref 7, .ref 18, .ref 29, .ref 40, .ref 42, .ref 48, .null, .null, .null, .long 0, .long 0]), .inr (0, [.int 0, .int 0, .int 0, .ref 2, .ref 3, .ref 4, .ref 5]), .inl (0, 6, .inl (fun _ => 0)), .inl (0, 48, .inl (fun _ => 0)), .inl (0, 48, .inl c_likes), .inl (0, 32, .inl c_told), .inl (0, 4096, .inl (fun _ => 0)), .inr (4, [.ref 1, .ref 8, .ref 9, .int (-1 : Int32), .int 0, .int 0, .ref 10, .ref 11, .ref 12, .ref 13, .ref 14, .int 0, .ref 6, .ref 15, .ref 16, .ref 17]), .inl (0, 56, .inl (fun _ => 0)), .inl (0, 56, .inl (fun _ => 0)), .inl (0, 1056, .inl (fun _ => 0)), .inl (0, 1056, .inl (fun _ => 0)), .inl (0, 1056, .inl (fun _ => 0)), .inl (0, 7392, .inl (fun _ => 0)), .inl (0, 10, .inl (fun _ => 0)), .inl (0, 9, .inl (fun _ => 0)), .inl (0, 9, .inl (fun _ => 0)), .inl (0, 9, .inl (fun _ => 0)), .inr (4, [.ref 1, .ref 19, .ref 20, .int (-1 : Int32), .int 0, .int 0, .ref 21, .ref 22, .ref 23, .ref 24, .ref 25, .int 0, .ref 6, .ref 26, .ref 27, .ref 28]), .inl (0, 56, .inl (fun _ => 0)), .inl (0, 56, .inl (fun _ => 0)), .inl (0, 1056, .inl (fun _ => 0)), .inl (0, 1056, .inl (fun _ => 0)), .inl (0, 1056, .inl (fun _ => 0)), .inl (0, 7392, .inl (fun _ => 0)), .inl (0, 10, .inl (fun _ => 0)), .inl (0, 9, .inl (fun _ => 0)), .inl (0, 9, .inl (fun _ => 0)), .inl (0, 9, .inl (fun _ => 0)), .inr (4, [.ref 1, .ref 30, .ref 31, .int (-1 : Int32), .int 0, .int 0, .ref 32, .ref 33, .ref 34, .ref 35, .ref 36, .int 0, .ref 6, .ref 37, .ref 38, .ref 39]), .inl (0, 56, .inl (fun _ => 0)), .inl (0, 56, .inl (fun _ => 0)), .inl (0, 1056, .inl (fun _ => 0)), .inl (0, 1056, .inl (fun _ => 0)), .inl (0, 1056, .inl (fun _ => 0)), .inl (0, 7392, .inl (fun _ => 0)), .inl (0, 10, .inl (fun _ => 0)), .inl (0, 9, .inl (fun _ => 0)), .inl (0, 9, .inl (fun _ => 0)), .inl (0, 9, .inl (fun _ => 0)), .inr (5, [.ref 1, .int 0, .ref 41, .int 0]), .inl (0, 8, .inl (fun _ => 0)), .inr (6, [.ref 1, .ref 43, .ref 44, .ref 45, .ref 46, .ref 47]), .inl (0, 8, .inl (fun _ => 0)), .inl (0, 8, .inl (fun _ => 0)), .inl (0, 8, .inl (fun _ => 0)), .inl (0, 8, .inl (fun _ => 0)), .inl (0, 6, .inl (fun _ => 0)), .inr (3, [.ref 1, .ref 49, .int 0, .ref 50]), .inl (0, 8, .inl (fun _ => 0)), .inl (0, 8, .inl (fun _ => 0))]) F_X7_50 rfl (fun _ _ _ h => by cases h; rfl) dX7_init_111 rfl rfl rfl (ltb rfl) rfl ?_
  refine G_aload_n dX7_init_114 rfl rfl ?_
  refine G_new (L := 51) N_X7_54 dX7_init_115 (fun _ => rfl) (lel (a' := 51) (b' := 60) rfl rfl rfl) (lel (a' := 36496) (b' := 40723) rfl rfl rfl) (roHi.nil rfl rfl) (leb rfl) rfl (fun δ => ?_)
  change GG _ _ _ _ _ _ 51 36496 _ [.inr (7, [.ref 1, .ref 7, .ref 18, .ref 29, .ref 40, .ref 42, .ref 48, .null, .null, .null, .long 0, .long 0]), .inr (0, [.int 0, .int 0, .int 0, .ref 2, .ref 3, .ref 4, .ref 5]), .inl (0, 6, .inl (fun _ => 0)), .inl (0, 48, .inl (fun _ => 0)), .inl (0, 48, .inl c_likes), .inl (0, 32, .inl c_told), .inl (0, 4096, .inl (fun _ => 0)), .inr (4, [.ref 1, .ref 8, .ref 9, .int (-1 : Int32), .int 0, .int 0, .ref 10, .ref 11, .ref 12, .ref 13, .ref 14, .int 0, .ref 6, .ref 15, .ref 16, .ref 17]), .inl (0, 56, .inl (fun _ => 0)), .inl (0, 56, .inl (fun _ => 0)), .inl (0, 1056, .inl (fun _ => 0)), .inl (0, 1056, .inl (fun _ => 0)), .inl (0, 1056, .inl (fun _ => 0)), .inl (0, 7392, .inl (fun _ => 0)), .inl (0, 10, .inl (fun _ => 0)), .inl (0, 9, .inl (fun _ => 0)), .inl (0, 9, .inl (fun _ => 0)), .inl (0, 9, .inl (fun _ => 0)), .inr (4, [.ref 1, .ref 19, .ref 20, .int (-1 : Int32), .int 0, .int 0, .ref 21, .ref 22, .ref 23, .ref 24, .ref 25, .int 0, .ref 6, .ref 26, .ref 27, .ref 28]), .inl (0, 56, .inl (fun _ => 0)), .inl (0, 56, .inl (fun _ => 0)), .inl (0, 1056, .inl (fun _ => 0)), .inl (0, 1056, .inl (fun _ => 0)), .inl (0, 1056, .inl (fun _ => 0)), .inl (0, 7392, .inl (fun _ => 0)), .inl (0, 10, .inl (fun _ => 0)), .inl (0, 9, .inl (fun _ => 0)), .inl (0, 9, .inl (fun _ => 0)), .inl (0, 9, .inl (fun _ => 0)), .inr (4, [.ref 1, .ref 30, .ref 31, .int (-1 : Int32), .int 0, .int 0, .ref 32, .ref 33, .ref 34, .ref 35, .ref 36, .int 0, .ref 6, .ref 37, .ref 38, .ref 39]), .inl (0, 56, .inl (fun _ => 0)), .inl (0, 56, .inl (fun _ => 0)), .inl (0, 1056, .inl (fun _ => 0)), .inl (0, 1056, .inl (fun _ => 0)), .inl (0, 1056, .inl (fun _ => 0)), .inl (0, 7392, .inl (fun _ => 0)), .inl (0, 10, .inl (fun _ => 0)), .inl (0, 9, .inl (fun _ => 0)), .inl (0, 9, .inl (fun _ => 0)), .inl (0, 9, .inl (fun _ => 0)), .inr (5, [.ref 1, .int 0, .ref 41, .int 0]), .inl (0, 8, .inl (fun _ => 0)), .inr (6, [.ref 1, .ref 43, .ref 44, .ref 45, .ref 46, .ref 47]), .inl (0, 8, .inl (fun _ => 0)), .inl (0, 8, .inl (fun _ => 0)), .inl (0, 8, .inl (fun _ => 0)), .inl (0, 8, .inl (fun _ => 0)), .inl (0, 6, .inl (fun _ => 0)), .inr (3, [.ref 1, .ref 49, .int 0, .ref 50]), .inl (0, 8, .inl (fun _ => 0)), .inl (0, 8, .inl (fun _ => 0)), .inr (2, [.null, .null, .int 0, .null, .null, .long 0, .int 0, .int 0])] [some (.ref 0), some (.ref 6)] [.ref 51, .ref 0]
  refine G_dup dX7_init_118 rfl ?_
  refine G_aload_n dX7_init_119 rfl rfl ?_
  refine G_get (v := .ref 1) F_X7_10 dX7_init_120 rfl rfl ?_
  refine G_callI (μ2 := mu_X2_init) (As := [.ref 1000]) (w2 := [.inr (7, [.ref 1, .ref 7, .ref 18, .ref 29, .ref 40, .ref 42, .ref 48, .null, .null, .null, .long 0, .long 0]), .inr (0, [.int 0, .int 0, .int 0, .ref 2, .ref 3, .ref 4, .ref 5]), .inl (0, 6, .inl (fun _ => 0)), .inl (0, 48, .inl (fun _ => 0)), .inl (0, 48, .inl c_likes), .inl (0, 32, .inl c_told), .inl (0, 4096, .inl (fun _ => 0)), .inr (4, [.ref 1, .ref 8, .ref 9, .int (-1 : Int32), .int 0, .int 0, .ref 10, .ref 11, .ref 12, .ref 13, .ref 14, .int 0, .ref 6, .ref 15, .ref 16, .ref 17]), .inl (0, 56, .inl (fun _ => 0)), .inl (0, 56, .inl (fun _ => 0)), .inl (0, 1056, .inl (fun _ => 0)), .inl (0, 1056, .inl (fun _ => 0)), .inl (0, 1056, .inl (fun _ => 0)), .inl (0, 7392, .inl (fun _ => 0)), .inl (0, 10, .inl (fun _ => 0)), .inl (0, 9, .inl (fun _ => 0)), .inl (0, 9, .inl (fun _ => 0)), .inl (0, 9, .inl (fun _ => 0)), .inr (4, [.ref 1, .ref 19, .ref 20, .int (-1 : Int32), .int 0, .int 0, .ref 21, .ref 22, .ref 23, .ref 24, .ref 25, .int 0, .ref 6, .ref 26, .ref 27, .ref 28]), .inl (0, 56, .inl (fun _ => 0)), .inl (0, 56, .inl (fun _ => 0)), .inl (0, 1056, .inl (fun _ => 0)), .inl (0, 1056, .inl (fun _ => 0)), .inl (0, 1056, .inl (fun _ => 0)), .inl (0, 7392, .inl (fun _ => 0)), .inl (0, 10, .inl (fun _ => 0)), .inl (0, 9, .inl (fun _ => 0)), .inl (0, 9, .inl (fun _ => 0)), .inl (0, 9, .inl (fun _ => 0)), .inr (4, [.ref 1, .ref 30, .ref 31, .int (-1 : Int32), .int 0, .int 0, .ref 32, .ref 33, .ref 34, .ref 35, .ref 36, .int 0, .ref 6, .ref 37, .ref 38, .ref 39]), .inl (0, 56, .inl (fun _ => 0)), .inl (0, 56, .inl (fun _ => 0)), .inl (0, 1056, .inl (fun _ => 0)), .inl (0, 1056, .inl (fun _ => 0)), .inl (0, 1056, .inl (fun _ => 0)), .inl (0, 7392, .inl (fun _ => 0)), .inl (0, 10, .inl (fun _ => 0)), .inl (0, 9, .inl (fun _ => 0)), .inl (0, 9, .inl (fun _ => 0)), .inl (0, 9, .inl (fun _ => 0)), .inr (5, [.ref 1, .int 0, .ref 41, .int 0]), .inl (0, 8, .inl (fun _ => 0)), .inr (6, [.ref 1, .ref 43, .ref 44, .ref 45, .ref 46, .ref 47]), .inl (0, 8, .inl (fun _ => 0)), .inl (0, 8, .inl (fun _ => 0)), .inl (0, 8, .inl (fun _ => 0)), .inl (0, 8, .inl (fun _ => 0)), .inl (0, 6, .inl (fun _ => 0)), .inr (3, [.ref 1, .ref 49, .int 0, .ref 50]), .inl (0, 8, .inl (fun _ => 0)), .inl (0, 8, .inl (fun _ => 0)), .inr (2, [.ref 1, .ref 52, .int (-1 : Int32), .ref 53, .ref 54, .long 0, .int 0, .int 0]), .inl (0, 48, .inl (fun _ => 0)), .inl (1, 2048, .inr (.inl (fun _ => 0))), .inl (0, 2048, .inl (fun _ => 0))]) (wc := [.inr (2, [.null, .null, .int 0, .null, .null, .long 0, .int 0, .int 0])]) (wc2 := wi_X2) (rest := [.ref 51, .ref 0]) [51] [1] [0, 1, 2, 3, 4, 5, 6, 7, 8, 9, 10, 11, 12, 13, 14, 15, 16, 17, 18, 19, 20, 21, 22, 23, 24, 25, 26, 27, 28, 29, 30, 31, 32, 33, 34, 35, 36, 37, 38, 39, 40, 41, 42, 43, 44, 45, 46, 47, 48, 49, 50] [0, 1, 2, 3, 4, 5, 6, 7, 8, 9, 10, 11, 12, 13, 14, 15, 16, 17, 18, 19, 20, 21, 22, 23, 24, 25, 26, 27, 28, 29, 30, 31, 32, 33, 34, 35, 36, 37, 38, 39, 40, 41, 42, 43, 44, 45, 46, 47, 48, 49, 50, 51, 52, 53, 54] (c_X2_init) cwi_X2 m_X7_56 dX7_init_123 rfl ⟨leb rfl, leb rfl⟩ ⟨lel (a' := 54) (b' := 60) rfl rfl rfl, lel (a' := 40640) (b' := 40723) rfl rfl rfl⟩ (roHi.nil rfl rfl) ⟨rfl, rfl⟩ (leb rfl) rfl rfl (fun _ => rfl) rfl (leb rfl) rfl (fun δ => ?_)
  change GG _ _ _ _ _ _ 54 40640 _ [.inr (7, [.ref 1, .ref 7, .ref 18, .ref 29, .ref 40, .ref 42, .ref 48, .null, .null, .null, .long 0, .long 0]), .inr (0, [.int 0, .int 0, .int 0, .ref 2, .ref 3, .ref 4, .ref 5]), .inl (0, 6, .inl (fun _ => 0)), .inl (0, 48, .inl (fun _ => 0)), .inl (0, 48, .inl c_likes), .inl (0, 32, .inl c_told), .inl (0, 4096, .inl (fun _ => 0)), .inr (4, [.ref 1, .ref 8, .ref 9, .int (-1 : Int32), .int 0, .int 0, .ref 10, .ref 11, .ref 12, .ref 13, .ref 14, .int 0, .ref 6, .ref 15, .ref 16, .ref 17]), .inl (0, 56, .inl (fun _ => 0)), .inl (0, 56, .inl (fun _ => 0)), .inl (0, 1056, .inl (fun _ => 0)), .inl (0, 1056, .inl (fun _ => 0)), .inl (0, 1056, .inl (fun _ => 0)), .inl (0, 7392, .inl (fun _ => 0)), .inl (0, 10, .inl (fun _ => 0)), .inl (0, 9, .inl (fun _ => 0)), .inl (0, 9, .inl (fun _ => 0)), .inl (0, 9, .inl (fun _ => 0)), .inr (4, [.ref 1, .ref 19, .ref 20, .int (-1 : Int32), .int 0, .int 0, .ref 21, .ref 22, .ref 23, .ref 24, .ref 25, .int 0, .ref 6, .ref 26, .ref 27, .ref 28]), .inl (0, 56, .inl (fun _ => 0)), .inl (0, 56, .inl (fun _ => 0)), .inl (0, 1056, .inl (fun _ => 0)), .inl (0, 1056, .inl (fun _ => 0)), .inl (0, 1056, .inl (fun _ => 0)), .inl (0, 7392, .inl (fun _ => 0)), .inl (0, 10, .inl (fun _ => 0)), .inl (0, 9, .inl (fun _ => 0)), .inl (0, 9, .inl (fun _ => 0)), .inl (0, 9, .inl (fun _ => 0)), .inr (4, [.ref 1, .ref 30, .ref 31, .int (-1 : Int32), .int 0, .int 0, .ref 32, .ref 33, .ref 34, .ref 35, .ref 36, .int 0, .ref 6, .ref 37, .ref 38, .ref 39]), .inl (0, 56, .inl (fun _ => 0)), .inl (0, 56, .inl (fun _ => 0)), .inl (0, 1056, .inl (fun _ => 0)), .inl (0, 1056, .inl (fun _ => 0)), .inl (0, 1056, .inl (fun _ => 0)), .inl (0, 7392, .inl (fun _ => 0)), .inl (0, 10, .inl (fun _ => 0)), .inl (0, 9, .inl (fun _ => 0)), .inl (0, 9, .inl (fun _ => 0)), .inl (0, 9, .inl (fun _ => 0)), .inr (5, [.ref 1, .int 0, .ref 41, .int 0]), .inl (0, 8, .inl (fun _ => 0)), .inr (6, [.ref 1, .ref 43, .ref 44, .ref 45, .ref 46, .ref 47]), .inl (0, 8, .inl (fun _ => 0)), .inl (0, 8, .inl (fun _ => 0)), .inl (0, 8, .inl (fun _ => 0)), .inl (0, 8, .inl (fun _ => 0)), .inl (0, 6, .inl (fun _ => 0)), .inr (3, [.ref 1, .ref 49, .int 0, .ref 50]), .inl (0, 8, .inl (fun _ => 0)), .inl (0, 8, .inl (fun _ => 0)), .inr (2, [.ref 1, .ref 52, .int (-1 : Int32), .ref 53, .ref 54, .long 0, .int 0, .int 0]), .inl (0, 48, .inl (fun _ => 0)), .inl (1, 2048, .inr (.inl (fun _ => 0))), .inl (0, 2048, .inl (fun _ => 0))] [some (.ref 0), some (.ref 6)] [.ref 51, .ref 0]
  refine G_putF (w2 := [.inr (7, [.ref 1, .ref 7, .ref 18, .ref 29, .ref 40, .ref 42, .ref 48, .ref 51, .null, .null, .long 0, .long 0]), .inr (0, [.int 0, .int 0, .int 0, .ref 2, .ref 3, .ref 4, .ref 5]), .inl (0, 6, .inl (fun _ => 0)), .inl (0, 48, .inl (fun _ => 0)), .inl (0, 48, .inl c_likes), .inl (0, 32, .inl c_told), .inl (0, 4096, .inl (fun _ => 0)), .inr (4, [.ref 1, .ref 8, .ref 9, .int (-1 : Int32), .int 0, .int 0, .ref 10, .ref 11, .ref 12, .ref 13, .ref 14, .int 0, .ref 6, .ref 15, .ref 16, .ref 17]), .inl (0, 56, .inl (fun _ => 0)), .inl (0, 56, .inl (fun _ => 0)), .inl (0, 1056, .inl (fun _ => 0)), .inl (0, 1056, .inl (fun _ => 0)), .inl (0, 1056, .inl (fun _ => 0)), .inl (0, 7392, .inl (fun _ => 0)), .inl (0, 10, .inl (fun _ => 0)), .inl (0, 9, .inl (fun _ => 0)), .inl (0, 9, .inl (fun _ => 0)), .inl (0, 9, .inl (fun _ => 0)), .inr (4, [.ref 1, .ref 19, .ref 20, .int (-1 : Int32), .int 0, .int 0, .ref 21, .ref 22, .ref 23, .ref 24, .ref 25, .int 0, .ref 6, .ref 26, .ref 27, .ref 28]), .inl (0, 56, .inl (fun _ => 0)), .inl (0, 56, .inl (fun _ => 0)), .inl (0, 1056, .inl (fun _ => 0)), .inl (0, 1056, .inl (fun _ => 0)), .inl (0, 1056, .inl (fun _ => 0)), .inl (0, 7392, .inl (fun _ => 0)), .inl (0, 10, .inl (fun _ => 0)), .inl (0, 9, .inl (fun _ => 0)), .inl (0, 9, .inl (fun _ => 0)), .inl (0, 9, .inl (fun _ => 0)), .inr (4, [.ref 1, .ref 30, .ref 31, .int (-1 : Int32), .int 0, .int 0, .ref 32, .ref 33, .ref 34, .ref 35, .ref 36, .int 0, .ref 6, .ref 37, .ref 38, .ref 39]), .inl (0, 56, .inl (fun _ => 0)), .inl (0, 56, .inl (fun _ => 0)), .inl (0, 1056, .inl (fun _ => 0)), .inl (0, 1056, .inl (fun _ => 0)), .inl (0, 1056, .inl (fun _ => 0)), .inl (0, 7392, .inl (fun _ => 0)), .inl (0, 10, .inl (fun _ => 0)), .inl (0, 9, .inl (fun _ => 0)), .inl (0, 9, .inl (fun _ => 0)), .inl (0, 9, .inl (fun _ => 0)), .inr (5, [.ref 1, .int 0, .ref 41, .int 0]), .inl (0, 8, .inl (fun _ => 0)), .inr (6, [.ref 1, .ref 43, .ref 44, .ref 45, .ref 46, .ref 47]), .inl (0, 8, .inl (fun _ => 0)), .inl (0, 8, .inl (fun _ => 0)), .inl (0, 8, .inl (fun _ => 0)), .inl (0, 8, .inl (fun _ => 0)), .inl (0, 6, .inl (fun _ => 0)), .inr (3, [.ref 1, .ref 49, .int 0, .ref 50]), .inl (0, 8, .inl (fun _ => 0)), .inl (0, 8, .inl (fun _ => 0)), .inr (2, [.ref 1, .ref 52, .int (-1 : Int32), .ref 53, .ref 54, .long 0, .int 0, .int 0]), .inl (0, 48, .inl (fun _ => 0)), .inl (1, 2048, .inr (.inl (fun _ => 0))), .inl (0, 2048, .inl (fun _ => 0))]) F_X7_57 rfl (fun _ _ _ h => by cases h; rfl) dX7_init_126 rfl rfl rfl (ltb rfl) rfl ?_
  refine G_aload_n dX7_init_129 rfl rfl ?_
  refine G_new (L := 55) N_X7_61 dX7_init_130 (fun _ => rfl) (lel (a' := 55) (b' := 60) rfl rfl rfl) (lel (a' := 40647) (b' := 40723) rfl rfl rfl) (roHi.nil rfl rfl) (leb rfl) rfl (fun δ => ?_)
  change GG _ _ _ _ _ _ 55 40647 _ [.inr (7, [.ref 1, .ref 7, .ref 18, .ref 29, .ref 40, .ref 42, .ref 48, .ref 51, .null, .null, .long 0, .long 0]), .inr (0, [.int 0, .int 0, .int 0, .ref 2, .ref 3, .ref 4, .ref 5]), .inl (0, 6, .inl (fun _ => 0)), .inl (0, 48, .inl (fun _ => 0)), .inl (0, 48, .inl c_likes), .inl (0, 32, .inl c_told), .inl (0, 4096, .inl (fun _ => 0)), .inr (4, [.ref 1, .ref 8, .ref 9, .int (-1 : Int32), .int 0, .int 0, .ref 10, .ref 11, .ref 12, .ref 13, .ref 14, .int 0, .ref 6, .ref 15, .ref 16, .ref 17]), .inl (0, 56, .inl (fun _ => 0)), .inl (0, 56, .inl (fun _ => 0)), .inl (0, 1056, .inl (fun _ => 0)), .inl (0, 1056, .inl (fun _ => 0)), .inl (0, 1056, .inl (fun _ => 0)), .inl (0, 7392, .inl (fun _ => 0)), .inl (0, 10, .inl (fun _ => 0)), .inl (0, 9, .inl (fun _ => 0)), .inl (0, 9, .inl (fun _ => 0)), .inl (0, 9, .inl (fun _ => 0)), .inr (4, [.ref 1, .ref 19, .ref 20, .int (-1 : Int32), .int 0, .int 0, .ref 21, .ref 22, .ref 23, .ref 24, .ref 25, .int 0, .ref 6, .ref 26, .ref 27, .ref 28]), .inl (0, 56, .inl (fun _ => 0)), .inl (0, 56, .inl (fun _ => 0)), .inl (0, 1056, .inl (fun _ => 0)), .inl (0, 1056, .inl (fun _ => 0)), .inl (0, 1056, .inl (fun _ => 0)), .inl (0, 7392, .inl (fun _ => 0)), .inl (0, 10, .inl (fun _ => 0)), .inl (0, 9, .inl (fun _ => 0)), .inl (0, 9, .inl (fun _ => 0)), .inl (0, 9, .inl (fun _ => 0)), .inr (4, [.ref 1, .ref 30, .ref 31, .int (-1 : Int32), .int 0, .int 0, .ref 32, .ref 33, .ref 34, .ref 35, .ref 36, .int 0, .ref 6, .ref 37, .ref 38, .ref 39]), .inl (0, 56, .inl (fun _ => 0)), .inl (0, 56, .inl (fun _ => 0)), .inl (0, 1056, .inl (fun _ => 0)), .inl (0, 1056, .inl (fun _ => 0)), .inl (0, 1056, .inl (fun _ => 0)), .inl (0, 7392, .inl (fun _ => 0)), .inl (0, 10, .inl (fun _ => 0)), .inl (0, 9, .inl (fun _ => 0)), .inl (0, 9, .inl (fun _ => 0)), .inl (0, 9, .inl (fun _ => 0)), .inr (5, [.ref 1, .int 0, .ref 41, .int 0]), .inl (0, 8, .inl (fun _ => 0)), .inr (6, [.ref 1, .ref 43, .ref 44, .ref 45, .ref 46, .ref 47]), .inl (0, 8, .inl (fun _ => 0)), .inl (0, 8, .inl (fun _ => 0)), .inl (0, 8, .inl (fun _ => 0)), .inl (0, 8, .inl (fun _ => 0)), .inl (0, 6, .inl (fun _ => 0)), .inr (3, [.ref 1, .ref 49, .int 0, .ref 50]), .inl (0, 8, .inl (fun _ => 0)), .inl (0, 8, .inl (fun _ => 0)), .inr (2, [.ref 1, .ref 52, .int (-1 : Int32), .ref 53, .ref 54, .long 0, .int 0, .int 0]), .inl (0, 48, .inl (fun _ => 0)), .inl (1, 2048, .inr (.inl (fun _ => 0))), .inl (0, 2048, .inl (fun _ => 0)), .inr (1, [.long 0, .null, .long 0, .null, .null, .null, .null])] [some (.ref 0), some (.ref 6)] [.ref 55, .ref 0]
  refine G_dup dX7_init_133 rfl ?_
  refine G_aload_n dX7_init_134 rfl rfl ?_
  refine G_get (v := .ref 1) F_X7_10 dX7_init_135 rfl rfl ?_
  refine G_callI (μ2 := mu_X1_init) (As := [.ref 1000]) (w2 := [.inr (7, [.ref 1, .ref 7, .ref 18, .ref 29, .ref 40, .ref 42, .ref 48, .ref 51, .null, .null, .long 0, .long 0]), .inr (0, [.int 0, .int 0, .int 0, .ref 2, .ref 3, .ref 4, .ref 5]), .inl (0, 6, .inl (fun _ => 0)), .inl (0, 48, .inl (fun _ => 0)), .inl (0, 48, .inl c_likes), .inl (0, 32, .inl c_told), .inl (0, 4096, .inl (fun _ => 0)), .inr (4, [.ref 1, .ref 8, .ref 9, .int (-1 : Int32), .int 0, .int 0, .ref 10, .ref 11, .ref 12, .ref 13, .ref 14, .int 0, .ref 6, .ref 15, .ref 16, .ref 17]), .inl (0, 56, .inl (fun _ => 0)), .inl (0, 56, .inl (fun _ => 0)), .inl (0, 1056, .inl (fun _ => 0)), .inl (0, 1056, .inl (fun _ => 0)), .inl (0, 1056, .inl (fun _ => 0)), .inl (0, 7392, .inl (fun _ => 0)), .inl (0, 10, .inl (fun _ => 0)), .inl (0, 9, .inl (fun _ => 0)), .inl (0, 9, .inl (fun _ => 0)), .inl (0, 9, .inl (fun _ => 0)), .inr (4, [.ref 1, .ref 19, .ref 20, .int (-1 : Int32), .int 0, .int 0, .ref 21, .ref 22, .ref 23, .ref 24, .ref 25, .int 0, .ref 6, .ref 26, .ref 27, .ref 28]), .inl (0, 56, .inl (fun _ => 0)), .inl (0, 56, .inl (fun _ => 0)), .inl (0, 1056, .inl (fun _ => 0)), .inl (0, 1056, .inl (fun _ => 0)), .inl (0, 1056, .inl (fun _ => 0)), .inl (0, 7392, .inl (fun _ => 0)), .inl (0, 10, .inl (fun _ => 0)), .inl (0, 9, .inl (fun _ => 0)), .inl (0, 9, .inl (fun _ => 0)), .inl (0, 9, .inl (fun _ => 0)), .inr (4, [.ref 1, .ref 30, .ref 31, .int (-1 : Int32), .int 0, .int 0, .ref 32, .ref 33, .ref 34, .ref 35, .ref 36, .int 0, .ref 6, .ref 37, .ref 38, .ref 39]), .inl (0, 56, .inl (fun _ => 0)), .inl (0, 56, .inl (fun _ => 0)), .inl (0, 1056, .inl (fun _ => 0)), .inl (0, 1056, .inl (fun _ => 0)), .inl (0, 1056, .inl (fun _ => 0)), .inl (0, 7392, .inl (fun _ => 0)), .inl (0, 10, .inl (fun _ => 0)), .inl (0, 9, .inl (fun _ => 0)), .inl (0, 9, .inl (fun _ => 0)), .inl (0, 9, .inl (fun _ => 0)), .inr (5, [.ref 1, .int 0, .ref 41, .int 0]), .inl (0, 8, .inl (fun _ => 0)), .inr (6, [.ref 1, .ref 43, .ref 44, .ref 45, .ref 46, .ref 47]), .inl (0, 8, .inl (fun _ => 0)), .inl (0, 8, .inl (fun _ => 0)), .inl (0, 8, .inl (fun _ => 0)), .inl (0, 8, .inl (fun _ => 0)), .inl (0, 6, .inl (fun _ => 0)), .inr (3, [.ref 1, .ref 49, .int 0, .ref 50]), .inl (0, 8, .inl (fun _ => 0)), .inl (0, 8, .inl (fun _ => 0)), .inr (2, [.ref 1, .ref 52, .int (-1 : Int32), .ref 53, .ref 54, .long 0, .int 0, .int 0]), .inl (0, 48, .inl (fun _ => 0)), .inl (1, 2048, .inr (.inl (fun _ => 0))), .inl (0, 2048, .inl (fun _ => 0)), .inr (1, [.long 0, .ref 1, .long 0, .ref 56, .ref 57, .ref 58, .ref 59]), .inl (1, 48, .inr (.inl (fun _ => 0))), .inl (1, 6, .inr (.inl (fun _ => 0))), .inl (0, 8, .inl (fun _ => 0)), .inl (0, 6, .inl (fun _ => 0))]) (wc := [.inr (1, [.long 0, .null, .long 0, .null, .null, .null, .null])]) (wc2 := wi_X1) (rest := [.ref 55, .ref 0]) [55] [1] [0, 1, 2, 3, 4, 5, 6, 7, 8, 9, 10, 11, 12, 13, 14, 15, 16, 17, 18, 19, 20, 21, 22, 23, 24, 25, 26, 27, 28, 29, 30, 31, 32, 33, 34, 35, 36, 37, 38, 39, 40, 41, 42, 43, 44, 45, 46, 47, 48, 49, 50, 51, 52, 53, 54] [0, 1, 2, 3, 4, 5, 6, 7, 8, 9, 10, 11, 12, 13, 14, 15, 16, 17, 18, 19, 20, 21, 22, 23, 24, 25, 26, 27, 28, 29, 30, 31, 32, 33, 34, 35, 36, 37, 38, 39, 40, 41, 42, 43, 44, 45, 46, 47, 48, 49, 50, 51, 52, 53, 54, 55, 56, 57, 58, 59] (c_X1_init) cwi_X1 m_X7_63 dX7_init_138 rfl ⟨leb rfl, leb rfl⟩ ⟨lel (a' := 59) (b' := 60) rfl rfl rfl, lel (a' := 40715) (b' := 40723) rfl rfl rfl⟩ (roHi.nil rfl rfl) ⟨rfl, rfl⟩ (leb rfl) rfl rfl (fun _ => rfl) rfl (leb rfl) rfl (fun δ => ?_)
  change GG _ _ _ _ _ _ 59 40715 _ [.inr (7, [.ref 1, .ref 7, .ref 18, .ref 29, .ref 40, .ref 42, .ref 48, .ref 51, .null, .null, .long 0, .long 0]), .inr (0, [.int 0, .int 0, .int 0, .ref 2, .ref 3, .ref 4, .ref 5]), .inl (0, 6, .inl (fun _ => 0)), .inl (0, 48, .inl (fun _ => 0)), .inl (0, 48, .inl c_likes), .inl (0, 32, .inl c_told), .inl (0, 4096, .inl (fun _ => 0)), .inr (4, [.ref 1, .ref 8, .ref 9, .int (-1 : Int32), .int 0, .int 0, .ref 10, .ref 11, .ref 12, .ref 13, .ref 14, .int 0, .ref 6, .ref 15, .ref 16, .ref 17]), .inl (0, 56, .inl (fun _ => 0)), .inl (0, 56, .inl (fun _ => 0)), .inl (0, 1056, .inl (fun _ => 0)), .inl (0, 1056, .inl (fun _ => 0)), .inl (0, 1056, .inl (fun _ => 0)), .inl (0, 7392, .inl (fun _ => 0)), .inl (0, 10, .inl (fun _ => 0)), .inl (0, 9, .inl (fun _ => 0)), .inl (0, 9, .inl (fun _ => 0)), .inl (0, 9, .inl (fun _ => 0)), .inr (4, [.ref 1, .ref 19, .ref 20, .int (-1 : Int32), .int 0, .int 0, .ref 21, .ref 22, .ref 23, .ref 24, .ref 25, .int 0, .ref 6, .ref 26, .ref 27, .ref 28]), .inl (0, 56, .inl (fun _ => 0)), .inl (0, 56, .inl (fun _ => 0)), .inl (0, 1056, .inl (fun _ => 0)), .inl (0, 1056, .inl (fun _ => 0)), .inl (0, 1056, .inl (fun _ => 0)), .inl (0, 7392, .inl (fun _ => 0)), .inl (0, 10, .inl (fun _ => 0)), .inl (0, 9, .inl (fun _ => 0)), .inl (0, 9, .inl (fun _ => 0)), .inl (0, 9, .inl (fun _ => 0)), .inr (4, [.ref 1, .ref 30, .ref 31, .int (-1 : Int32), .int 0, .int 0, .ref 32, .ref 33, .ref 34, .ref 35, .ref 36, .int 0, .ref 6, .ref 37, .ref 38, .ref 39]), .inl (0, 56, .inl (fun _ => 0)), .inl (0, 56, .inl (fun _ => 0)), .inl (0, 1056, .inl (fun _ => 0)), .inl (0, 1056, .inl (fun _ => 0)), .inl (0, 1056, .inl (fun _ => 0)), .inl (0, 7392, .inl (fun _ => 0)), .inl (0, 10, .inl (fun _ => 0)), .inl (0, 9, .inl (fun _ => 0)), .inl (0, 9, .inl (fun _ => 0)), .inl (0, 9, .inl (fun _ => 0)), .inr (5, [.ref 1, .int 0, .ref 41, .int 0]), .inl (0, 8, .inl (fun _ => 0)), .inr (6, [.ref 1, .ref 43, .ref 44, .ref 45, .ref 46, .ref 47]), .inl (0, 8, .inl (fun _ => 0)), .inl (0, 8, .inl (fun _ => 0)), .inl (0, 8, .inl (fun _ => 0)), .inl (0, 8, .inl (fun _ => 0)), .inl (0, 6, .inl (fun _ => 0)), .inr (3, [.ref 1, .ref 49, .int 0, .ref 50]), .inl (0, 8, .inl (fun _ => 0)), .inl (0, 8, .inl (fun _ => 0)), .inr (2, [.ref 1, .ref 52, .int (-1 : Int32), .ref 53, .ref 54, .long 0, .int 0, .int 0]), .inl (0, 48, .inl (fun _ => 0)), .inl (1, 2048, .inr (.inl (fun _ => 0))), .inl (0, 2048, .inl (fun _ => 0)), .inr (1, [.long 0, .ref 1, .long 0, .ref 56, .ref 57, .ref 58, .ref 59]), .inl (1, 48, .inr (.inl (fun _ => 0))), .inl (1, 6, .inr (.inl (fun _ => 0))), .inl (0, 8, .inl (fun _ => 0)), .inl (0, 6, .inl (fun _ => 0))] [some (.ref 0), some (.ref 6)] [.ref 55, .ref 0]
  refine G_putF (w2 := [.inr (7, [.ref 1, .ref 7, .ref 18, .ref 29, .ref 40, .ref 42, .ref 48, .ref 51, .ref 55, .null, .long 0, .long 0]), .inr (0, [.int 0, .int 0, .int 0, .ref 2, .ref 3, .ref 4, .ref 5]), .inl (0, 6, .inl (fun _ => 0)), .inl (0, 48, .inl (fun _ => 0)), .inl (0, 48, .inl c_likes), .inl (0, 32, .inl c_told), .inl (0, 4096, .inl (fun _ => 0)), .inr (4, [.ref 1, .ref 8, .ref 9, .int (-1 : Int32), .int 0, .int 0, .ref 10, .ref 11, .ref 12, .ref 13, .ref 14, .int 0, .ref 6, .ref 15, .ref 16, .ref 17]), .inl (0, 56, .inl (fun _ => 0)), .inl (0, 56, .inl (fun _ => 0)), .inl (0, 1056, .inl (fun _ => 0)), .inl (0, 1056, .inl (fun _ => 0)), .inl (0, 1056, .inl (fun _ => 0)), .inl (0, 7392, .inl (fun _ => 0)), .inl (0, 10, .inl (fun _ => 0)), .inl (0, 9, .inl (fun _ => 0)), .inl (0, 9, .inl (fun _ => 0)), .inl (0, 9, .inl (fun _ => 0)), .inr (4, [.ref 1, .ref 19, .ref 20, .int (-1 : Int32), .int 0, .int 0, .ref 21, .ref 22, .ref 23, .ref 24, .ref 25, .int 0, .ref 6, .ref 26, .ref 27, .ref 28]), .inl (0, 56, .inl (fun _ => 0)), .inl (0, 56, .inl (fun _ => 0)), .inl (0, 1056, .inl (fun _ => 0)), .inl (0, 1056, .inl (fun _ => 0)), .inl (0, 1056, .inl (fun _ => 0)), .inl (0, 7392, .inl (fun _ => 0)), .inl (0, 10, .inl (fun _ => 0)), .inl (0, 9, .inl (fun _ => 0)), .inl (0, 9, .inl (fun _ => 0)), .inl (0, 9, .inl (fun _ => 0)), .inr (4, [.ref 1, .ref 30, .ref 31, .int (-1 : Int32), .int 0, .int 0, .ref 32, .ref 33, .ref 34, .ref 35, .ref 36, .int 0, .ref 6, .ref 37, .ref 38, .ref 39]), .inl (0, 56, .inl (fun _ => 0)), .inl (0, 56, .inl (fun _ => 0)), .inl (0, 1056, .inl (fun _ => 0)), .inl (0, 1056, .inl (fun _ => 0)), .inl (0, 1056, .inl (fun _ => 0)), .inl (0, 7392, .inl (fun _ => 0)), .inl (0, 10, .inl (fun _ => 0)), .inl (0, 9, .inl (fun _ => 0)), .inl (0, 9, .inl (fun _ => 0)), .inl (0, 9, .inl (fun _ => 0)), .inr (5, [.ref 1, .int 0, .ref 41, .int 0]), .inl (0, 8, .inl (fun _ => 0)), .inr (6, [.ref 1, .ref 43, .ref 44, .ref 45, .ref 46, .ref 47]), .inl (0, 8, .inl (fun _ => 0)), .inl (0, 8, .inl (fun _ => 0)), .inl (0, 8, .inl (fun _ => 0)), .inl (0, 8, .inl (fun _ => 0)), .inl (0, 6, .inl (fun _ => 0)), .inr (3, [.ref 1, .ref 49, .int 0, .ref 50]), .inl (0, 8, .inl (fun _ => 0)), .inl (0, 8, .inl (fun _ => 0)), .inr (2, [.ref 1, .ref 52, .int (-1 : Int32), .ref 53, .ref 54, .long 0, .int 0, .int 0]), .inl (0, 48, .inl (fun _ => 0)), .inl (1, 2048, .inr (.inl (fun _ => 0))), .inl (0, 2048, .inl (fun _ => 0)), .inr (1, [.long 0, .ref 1, .long 0, .ref 56, .ref 57, .ref 58, .ref 59]), .inl (1, 48, .inr (.inl (fun _ => 0))), .inl (1, 6, .inr (.inl (fun _ => 0))), .inl (0, 8, .inl (fun _ => 0)), .inl (0, 6, .inl (fun _ => 0))]) F_X7_64 rfl (fun _ _ _ h => by cases h; rfl) dX7_init_141 rfl rfl rfl (ltb rfl) rfl ?_
  refine G_aload_n dX7_init_144 rfl rfl ?_
  refine G_bipush 8 dX7_init_145 (by decide) ?_
  refine G_newarr (t := 0) (a0 := (8, .inl (fun _ => 0))) (L := 60) (N := 8) dX7_init_147 rfl aw_0 rfl ra_int (fun _ => rfl) (by decide) (by decide) (lel (a' := 32) (b' := 536870912) rfl rfl rfl) (lel (a' := 60) (b' := 60) rfl rfl rfl) (lel (a' := 40723) (b' := 40723) rfl rfl rfl) (roHi.nil rfl rfl) (leb rfl) rfl (fun δ => ?_)
  change GG _ _ _ _ _ _ 60 40723 _ [.inr (7, [.ref 1, .ref 7, .ref 18, .ref 29, .ref 40, .ref 42, .ref 48, .ref 51, .ref 55, .null, .long 0, .long 0]), .inr (0, [.int 0, .int 0, .int 0, .ref 2, .ref 3, .ref 4, .ref 5]), .inl (0, 6, .inl (fun _ => 0)), .inl (0, 48, .inl (fun _ => 0)), .inl (0, 48, .inl c_likes), .inl (0, 32, .inl c_told), .inl (0, 4096, .inl (fun _ => 0)), .inr (4, [.ref 1, .ref 8, .ref 9, .int (-1 : Int32), .int 0, .int 0, .ref 10, .ref 11, .ref 12, .ref 13, .ref 14, .int 0, .ref 6, .ref 15, .ref 16, .ref 17]), .inl (0, 56, .inl (fun _ => 0)), .inl (0, 56, .inl (fun _ => 0)), .inl (0, 1056, .inl (fun _ => 0)), .inl (0, 1056, .inl (fun _ => 0)), .inl (0, 1056, .inl (fun _ => 0)), .inl (0, 7392, .inl (fun _ => 0)), .inl (0, 10, .inl (fun _ => 0)), .inl (0, 9, .inl (fun _ => 0)), .inl (0, 9, .inl (fun _ => 0)), .inl (0, 9, .inl (fun _ => 0)), .inr (4, [.ref 1, .ref 19, .ref 20, .int (-1 : Int32), .int 0, .int 0, .ref 21, .ref 22, .ref 23, .ref 24, .ref 25, .int 0, .ref 6, .ref 26, .ref 27, .ref 28]), .inl (0, 56, .inl (fun _ => 0)), .inl (0, 56, .inl (fun _ => 0)), .inl (0, 1056, .inl (fun _ => 0)), .inl (0, 1056, .inl (fun _ => 0)), .inl (0, 1056, .inl (fun _ => 0)), .inl (0, 7392, .inl (fun _ => 0)), .inl (0, 10, .inl (fun _ => 0)), .inl (0, 9, .inl (fun _ => 0)), .inl (0, 9, .inl (fun _ => 0)), .inl (0, 9, .inl (fun _ => 0)), .inr (4, [.ref 1, .ref 30, .ref 31, .int (-1 : Int32), .int 0, .int 0, .ref 32, .ref 33, .ref 34, .ref 35, .ref 36, .int 0, .ref 6, .ref 37, .ref 38, .ref 39]), .inl (0, 56, .inl (fun _ => 0)), .inl (0, 56, .inl (fun _ => 0)), .inl (0, 1056, .inl (fun _ => 0)), .inl (0, 1056, .inl (fun _ => 0)), .inl (0, 1056, .inl (fun _ => 0)), .inl (0, 7392, .inl (fun _ => 0)), .inl (0, 10, .inl (fun _ => 0)), .inl (0, 9, .inl (fun _ => 0)), .inl (0, 9, .inl (fun _ => 0)), .inl (0, 9, .inl (fun _ => 0)), .inr (5, [.ref 1, .int 0, .ref 41, .int 0]), .inl (0, 8, .inl (fun _ => 0)), .inr (6, [.ref 1, .ref 43, .ref 44, .ref 45, .ref 46, .ref 47]), .inl (0, 8, .inl (fun _ => 0)), .inl (0, 8, .inl (fun _ => 0)), .inl (0, 8, .inl (fun _ => 0)), .inl (0, 8, .inl (fun _ => 0)), .inl (0, 6, .inl (fun _ => 0)), .inr (3, [.ref 1, .ref 49, .int 0, .ref 50]), .inl (0, 8, .inl (fun _ => 0)), .inl (0, 8, .inl (fun _ => 0)), .inr (2, [.ref 1, .ref 52, .int (-1 : Int32), .ref 53, .ref 54, .long 0, .int 0, .int 0]), .inl (0, 48, .inl (fun _ => 0)), .inl (1, 2048, .inr (.inl (fun _ => 0))), .inl (0, 2048, .inl (fun _ => 0)), .inr (1, [.long 0, .ref 1, .long 0, .ref 56, .ref 57, .ref 58, .ref 59]), .inl (1, 48, .inr (.inl (fun _ => 0))), .inl (1, 6, .inr (.inl (fun _ => 0))), .inl (0, 8, .inl (fun _ => 0)), .inl (0, 6, .inl (fun _ => 0)), .inl (0, 8, .inl (fun _ => 0))] [some (.ref 0), some (.ref 6)] [.ref 60, .ref 0]
  refine G_putF (w2 := [.inr (7, [.ref 1, .ref 7, .ref 18, .ref 29, .ref 40, .ref 42, .ref 48, .ref 51, .ref 55, .ref 60, .long 0, .long 0]), .inr (0, [.int 0, .int 0, .int 0, .ref 2, .ref 3, .ref 4, .ref 5]), .inl (0, 6, .inl (fun _ => 0)), .inl (0, 48, .inl (fun _ => 0)), .inl (0, 48, .inl c_likes), .inl (0, 32, .inl c_told), .inl (0, 4096, .inl (fun _ => 0)), .inr (4, [.ref 1, .ref 8, .ref 9, .int (-1 : Int32), .int 0, .int 0, .ref 10, .ref 11, .ref 12, .ref 13, .ref 14, .int 0, .ref 6, .ref 15, .ref 16, .ref 17]), .inl (0, 56, .inl (fun _ => 0)), .inl (0, 56, .inl (fun _ => 0)), .inl (0, 1056, .inl (fun _ => 0)), .inl (0, 1056, .inl (fun _ => 0)), .inl (0, 1056, .inl (fun _ => 0)), .inl (0, 7392, .inl (fun _ => 0)), .inl (0, 10, .inl (fun _ => 0)), .inl (0, 9, .inl (fun _ => 0)), .inl (0, 9, .inl (fun _ => 0)), .inl (0, 9, .inl (fun _ => 0)), .inr (4, [.ref 1, .ref 19, .ref 20, .int (-1 : Int32), .int 0, .int 0, .ref 21, .ref 22, .ref 23, .ref 24, .ref 25, .int 0, .ref 6, .ref 26, .ref 27, .ref 28]), .inl (0, 56, .inl (fun _ => 0)), .inl (0, 56, .inl (fun _ => 0)), .inl (0, 1056, .inl (fun _ => 0)), .inl (0, 1056, .inl (fun _ => 0)), .inl (0, 1056, .inl (fun _ => 0)), .inl (0, 7392, .inl (fun _ => 0)), .inl (0, 10, .inl (fun _ => 0)), .inl (0, 9, .inl (fun _ => 0)), .inl (0, 9, .inl (fun _ => 0)), .inl (0, 9, .inl (fun _ => 0)), .inr (4, [.ref 1, .ref 30, .ref 31, .int (-1 : Int32), .int 0, .int 0, .ref 32, .ref 33, .ref 34, .ref 35, .ref 36, .int 0, .ref 6, .ref 37, .ref 38, .ref 39]), .inl (0, 56, .inl (fun _ => 0)), .inl (0, 56, .inl (fun _ => 0)), .inl (0, 1056, .inl (fun _ => 0)), .inl (0, 1056, .inl (fun _ => 0)), .inl (0, 1056, .inl (fun _ => 0)), .inl (0, 7392, .inl (fun _ => 0)), .inl (0, 10, .inl (fun _ => 0)), .inl (0, 9, .inl (fun _ => 0)), .inl (0, 9, .inl (fun _ => 0)), .inl (0, 9, .inl (fun _ => 0)), .inr (5, [.ref 1, .int 0, .ref 41, .int 0]), .inl (0, 8, .inl (fun _ => 0)), .inr (6, [.ref 1, .ref 43, .ref 44, .ref 45, .ref 46, .ref 47]), .inl (0, 8, .inl (fun _ => 0)), .inl (0, 8, .inl (fun _ => 0)), .inl (0, 8, .inl (fun _ => 0)), .inl (0, 8, .inl (fun _ => 0)), .inl (0, 6, .inl (fun _ => 0)), .inr (3, [.ref 1, .ref 49, .int 0, .ref 50]), .inl (0, 8, .inl (fun _ => 0)), .inl (0, 8, .inl (fun _ => 0)), .inr (2, [.ref 1, .ref 52, .int (-1 : Int32), .ref 53, .ref 54, .long 0, .int 0, .int 0]), .inl (0, 48, .inl (fun _ => 0)), .inl (1, 2048, .inr (.inl (fun _ => 0))), .inl (0, 2048, .inl (fun _ => 0)), .inr (1, [.long 0, .ref 1, .long 0, .ref 56, .ref 57, .ref 58, .ref 59]), .inl (1, 48, .inr (.inl (fun _ => 0))), .inl (1, 6, .inr (.inl (fun _ => 0))), .inl (0, 8, .inl (fun _ => 0)), .inl (0, 6, .inl (fun _ => 0)), .inl (0, 8, .inl (fun _ => 0))]) F_X7_68 rfl (fun _ _ _ h => by cases h; rfl) dX7_init_149 rfl rfl rfl (ltb rfl) rfl ?_
  refine G_aload_n dX7_init_152 rfl rfl ?_
  refine G_lconst 0 dX7_init_153 (by decide) ?_
  refine G_put (w2 := [.inr (7, [.ref 1, .ref 7, .ref 18, .ref 29, .ref 40, .ref 42, .ref 48, .ref 51, .ref 55, .ref 60, .long 0, .long 0]), .inr (0, [.int 0, .int 0, .int 0, .ref 2, .ref 3, .ref 4, .ref 5]), .inl (0, 6, .inl (fun _ => 0)), .inl (0, 48, .inl (fun _ => 0)), .inl (0, 48, .inl c_likes), .inl (0, 32, .inl c_told), .inl (0, 4096, .inl (fun _ => 0)), .inr (4, [.ref 1, .ref 8, .ref 9, .int (-1 : Int32), .int 0, .int 0, .ref 10, .ref 11, .ref 12, .ref 13, .ref 14, .int 0, .ref 6, .ref 15, .ref 16, .ref 17]), .inl (0, 56, .inl (fun _ => 0)), .inl (0, 56, .inl (fun _ => 0)), .inl (0, 1056, .inl (fun _ => 0)), .inl (0, 1056, .inl (fun _ => 0)), .inl (0, 1056, .inl (fun _ => 0)), .inl (0, 7392, .inl (fun _ => 0)), .inl (0, 10, .inl (fun _ => 0)), .inl (0, 9, .inl (fun _ => 0)), .inl (0, 9, .inl (fun _ => 0)), .inl (0, 9, .inl (fun _ => 0)), .inr (4, [.ref 1, .ref 19, .ref 20, .int (-1 : Int32), .int 0, .int 0, .ref 21, .ref 22, .ref 23, .ref 24, .ref 25, .int 0, .ref 6, .ref 26, .ref 27, .ref 28]), .inl (0, 56, .inl (fun _ => 0)), .inl (0, 56, .inl (fun _ => 0)), .inl (0, 1056, .inl (fun _ => 0)), .inl (0, 1056, .inl (fun _ => 0)), .inl (0, 1056, .inl (fun _ => 0)), .inl (0, 7392, .inl (fun _ => 0)), .inl (0, 10, .inl (fun _ => 0)), .inl (0, 9, .inl (fun _ => 0)), .inl (0, 9, .inl (fun _ => 0)), .inl (0, 9, .inl (fun _ => 0)), .inr (4, [.ref 1, .ref 30, .ref 31, .int (-1 : Int32), .int 0, .int 0, .ref 32, .ref 33, .ref 34, .ref 35, .ref 36, .int 0, .ref 6, .ref 37, .ref 38, .ref 39]), .inl (0, 56, .inl (fun _ => 0)), .inl (0, 56, .inl (fun _ => 0)), .inl (0, 1056, .inl (fun _ => 0)), .inl (0, 1056, .inl (fun _ => 0)), .inl (0, 1056, .inl (fun _ => 0)), .inl (0, 7392, .inl (fun _ => 0)), .inl (0, 10, .inl (fun _ => 0)), .inl (0, 9, .inl (fun _ => 0)), .inl (0, 9, .inl (fun _ => 0)), .inl (0, 9, .inl (fun _ => 0)), .inr (5, [.ref 1, .int 0, .ref 41, .int 0]), .inl (0, 8, .inl (fun _ => 0)), .inr (6, [.ref 1, .ref 43, .ref 44, .ref 45, .ref 46, .ref 47]), .inl (0, 8, .inl (fun _ => 0)), .inl (0, 8, .inl (fun _ => 0)), .inl (0, 8, .inl (fun _ => 0)), .inl (0, 8, .inl (fun _ => 0)), .inl (0, 6, .inl (fun _ => 0)), .inr (3, [.ref 1, .ref 49, .int 0, .ref 50]), .inl (0, 8, .inl (fun _ => 0)), .inl (0, 8, .inl (fun _ => 0)), .inr (2, [.ref 1, .ref 52, .int (-1 : Int32), .ref 53, .ref 54, .long 0, .int 0, .int 0]), .inl (0, 48, .inl (fun _ => 0)), .inl (1, 2048, .inr (.inl (fun _ => 0))), .inl (0, 2048, .inl (fun _ => 0)), .inr (1, [.long 0, .ref 1, .long 0, .ref 56, .ref 57, .ref 58, .ref 59]), .inl (1, 48, .inr (.inl (fun _ => 0))), .inl (1, 6, .inr (.inl (fun _ => 0))), .inl (0, 8, .inl (fun _ => 0)), .inl (0, 6, .inl (fun _ => 0)), .inl (0, 8, .inl (fun _ => 0))]) F_X7_72 dX7_init_154 rfl rfl rfl (ltb rfl) rfl ?_
  refine G_aload_n dX7_init_157 rfl rfl ?_
  refine G_lconst 1 dX7_init_158 (by decide) ?_
  refine G_put (w2 := [.inr (7, [.ref 1, .ref 7, .ref 18, .ref 29, .ref 40, .ref 42, .ref 48, .ref 51, .ref 55, .ref 60, .long 0, .long 1]), .inr (0, [.int 0, .int 0, .int 0, .ref 2, .ref 3, .ref 4, .ref 5]), .inl (0, 6, .inl (fun _ => 0)), .inl (0, 48, .inl (fun _ => 0)), .inl (0, 48, .inl c_likes), .inl (0, 32, .inl c_told), .inl (0, 4096, .inl (fun _ => 0)), .inr (4, [.ref 1, .ref 8, .ref 9, .int (-1 : Int32), .int 0, .int 0, .ref 10, .ref 11, .ref 12, .ref 13, .ref 14, .int 0, .ref 6, .ref 15, .ref 16, .ref 17]), .inl (0, 56, .inl (fun _ => 0)), .inl (0, 56, .inl (fun _ => 0)), .inl (0, 1056, .inl (fun _ => 0)), .inl (0, 1056, .inl (fun _ => 0)), .inl (0, 1056, .inl (fun _ => 0)), .inl (0, 7392, .inl (fun _ => 0)), .inl (0, 10, .inl (fun _ => 0)), .inl (0, 9, .inl (fun _ => 0)), .inl (0, 9, .inl (fun _ => 0)), .inl (0, 9, .inl (fun _ => 0)), .inr (4, [.ref 1, .ref 19, .ref 20, .int (-1 : Int32), .int 0, .int 0, .ref 21, .ref 22, .ref 23, .ref 24, .ref 25, .int 0, .ref 6, .ref 26, .ref 27, .ref 28]), .inl (0, 56, .inl (fun _ => 0)), .inl (0, 56, .inl (fun _ => 0)), .inl (0, 1056, .inl (fun _ => 0)), .inl (0, 1056, .inl (fun _ => 0)), .inl (0, 1056, .inl (fun _ => 0)), .inl (0, 7392, .inl (fun _ => 0)), .inl (0, 10, .inl (fun _ => 0)), .inl (0, 9, .inl (fun _ => 0)), .inl (0, 9, .inl (fun _ => 0)), .inl (0, 9, .inl (fun _ => 0)), .inr (4, [.ref 1, .ref 30, .ref 31, .int (-1 : Int32), .int 0, .int 0, .ref 32, .ref 33, .ref 34, .ref 35, .ref 36, .int 0, .ref 6, .ref 37, .ref 38, .ref 39]), .inl (0, 56, .inl (fun _ => 0)), .inl (0, 56, .inl (fun _ => 0)), .inl (0, 1056, .inl (fun _ => 0)), .inl (0, 1056, .inl (fun _ => 0)), .inl (0, 1056, .inl (fun _ => 0)), .inl (0, 7392, .inl (fun _ => 0)), .inl (0, 10, .inl (fun _ => 0)), .inl (0, 9, .inl (fun _ => 0)), .inl (0, 9, .inl (fun _ => 0)), .inl (0, 9, .inl (fun _ => 0)), .inr (5, [.ref 1, .int 0, .ref 41, .int 0]), .inl (0, 8, .inl (fun _ => 0)), .inr (6, [.ref 1, .ref 43, .ref 44, .ref 45, .ref 46, .ref 47]), .inl (0, 8, .inl (fun _ => 0)), .inl (0, 8, .inl (fun _ => 0)), .inl (0, 8, .inl (fun _ => 0)), .inl (0, 8, .inl (fun _ => 0)), .inl (0, 6, .inl (fun _ => 0)), .inr (3, [.ref 1, .ref 49, .int 0, .ref 50]), .inl (0, 8, .inl (fun _ => 0)), .inl (0, 8, .inl (fun _ => 0)), .inr (2, [.ref 1, .ref 52, .int (-1 : Int32), .ref 53, .ref 54, .long 0, .int 0, .int 0]), .inl (0, 48, .inl (fun _ => 0)), .inl (1, 2048, .inr (.inl (fun _ => 0))), .inl (0, 2048, .inl (fun _ => 0)), .inr (1, [.long 0, .ref 1, .long 0, .ref 56, .ref 57, .ref 58, .ref 59]), .inl (1, 48, .inr (.inl (fun _ => 0))), .inl (1, 6, .inr (.inl (fun _ => 0))), .inl (0, 8, .inl (fun _ => 0)), .inl (0, 6, .inl (fun _ => 0)), .inl (0, 8, .inl (fun _ => 0))]) F_X7_76 dX7_init_159 rfl rfl rfl (ltb rfl) rfl ?_
  exact G_returnA dX7_init_162 rfl (lel (a' := 60) (b' := 60) rfl rfl rfl) (lel (a' := 40723) (b' := 40723) rfl rfl rfl)
abbrev mu_X8_init : KM := (yX8_init, cX8_init, 1, none, { frames := 1, cells := 21, slots := 1528138, locals := 12 }, [], [])
def wi_X8 : List mE := [.inr (8, [.int 0, .int 0, .ref 1, .ref 2, .ref 3, .long 0, .long 1, .ref 4, .int 0, .ref 5, .ref 6, .ref 7, .ref 8, .ref 9, .ref 10, .int 0, .ref 11, .ref 12, .int 0, .ref 13, .ref 14, .ref 15, .ref 16, .ref 17, .ref 18, .long 0, .ref 19, .ref 20, .ref 21]), .inl (0, 6, .inl (fun _ => 0)), .inl (0, 48, .inl (fun _ => 0)), .inl (0, 32, .inl (fun _ => 0)), .inl (0, 6, .inl (fun _ => 0)), .inl (1, 36864, .inr (.inl (fun _ => 0))), .inl (0, 8, .inl (fun _ => 0)), .inl (1, 56, .inr (.inl (fun _ => 0))), .inl (1, 36864, .inr (.inl (fun _ => 0))), .inl (0, 36864, .inl (fun _ => 0)), .inl (0, 36864, .inl (fun _ => 0)), .inl (0, 8, .inl (fun _ => 0)), .inl (0, 8, .inl (fun _ => 0)), .inl (1, 331776, .inr (.inl (fun _ => 0))), .inl (0, 8, .inl (fun _ => 0)), .inl (0, 8, .inl (fun _ => 0)), .inl (2, 72, .inl (fun _ => 0)), .inl (0, 8, .inl (fun _ => 0)), .inl (0, 1048576, .inl (fun _ => 0)), .inl (1, 6, .inr (.inl (fun _ => 0))), .inl (1, 48, .inr (.inl (fun _ => 0))), .inl (0, 8, .inl (fun _ => 0))]
theorem cwi_X8 : CWi mu_X8_init 0 := ⟨⟨all_of 768 (by decide +kernel) (by decide +kernel), all_of 9 (by decide +kernel) (by decide +kernel), by decide +kernel, by decide +kernel, by decide +kernel⟩, all_of 767 (by decide +kernel) (by decide +kernel), rfl, rfl⟩
set_option maxRecDepth 20000 in
theorem dX8_init_0 : decode cX8_init 0 = .ok (.aload_n 0, 1) := by decide +kernel
set_option maxRecDepth 20000 in
theorem dX8_init_1 : decode cX8_init 1 = .ok (.invokespecial 1, 3) := by decide +kernel
set_option maxRecDepth 20000 in
theorem dX8_init_4 : decode cX8_init 4 = .ok (.aload_n 0, 1) := by decide +kernel
set_option maxRecDepth 20000 in
theorem dX8_init_5 : decode cX8_init 5 = .ok (.bipush 6, 2) := by decide +kernel
set_option maxRecDepth 20000 in
theorem dX8_init_7 : decode cX8_init 7 = .ok (.newarray .int, 2) := by decide +kernel
set_option maxRecDepth 20000 in
theorem dX8_init_9 : decode cX8_init 9 = .ok (.putfield 7, 3) := by decide +kernel
set_option maxRecDepth 20000 in
theorem dX8_init_12 : decode cX8_init 12 = .ok (.aload_n 0, 1) := by decide +kernel
set_option maxRecDepth 20000 in
theorem dX8_init_13 : decode cX8_init 13 = .ok (.bipush 48, 2) := by decide +kernel
set_option maxRecDepth 20000 in
theorem dX8_init_15 : decode cX8_init 15 = .ok (.newarray .int, 2) := by decide +kernel
set_option maxRecDepth 20000 in
theorem dX8_init_17 : decode cX8_init 17 = .ok (.putfield 13, 3) := by decide +kernel
set_option maxRecDepth 20000 in
theorem dX8_init_20 : decode cX8_init 20 = .ok (.aload_n 0, 1) := by decide +kernel
set_option maxRecDepth 20000 in
theorem dX8_init_21 : decode cX8_init 21 = .ok (.bipush 32, 2) := by decide +kernel
set_option maxRecDepth 20000 in
theorem dX8_init_23 : decode cX8_init 23 = .ok (.newarray .int, 2) := by decide +kernel
set_option maxRecDepth 20000 in
theorem dX8_init_25 : decode cX8_init 25 = .ok (.putfield 16, 3) := by decide +kernel
set_option maxRecDepth 20000 in
theorem dX8_init_28 : decode cX8_init 28 = .ok (.aload_n 0, 1) := by decide +kernel
set_option maxRecDepth 20000 in
theorem dX8_init_29 : decode cX8_init 29 = .ok (.bipush 6, 2) := by decide +kernel
set_option maxRecDepth 20000 in
theorem dX8_init_31 : decode cX8_init 31 = .ok (.newarray .int, 2) := by decide +kernel
set_option maxRecDepth 20000 in
theorem dX8_init_33 : decode cX8_init 33 = .ok (.putfield 19, 3) := by decide +kernel
set_option maxRecDepth 20000 in
theorem dX8_init_36 : decode cX8_init 36 = .ok (.aload_n 0, 1) := by decide +kernel
set_option maxRecDepth 20000 in
theorem dX8_init_37 : decode cX8_init 37 = .ok (.ldc 22, 2) := by decide +kernel
set_option maxRecDepth 20000 in
theorem dX8_init_39 : decode cX8_init 39 = .ok (.newarray .long, 2) := by decide +kernel
set_option maxRecDepth 20000 in
theorem dX8_init_41 : decode cX8_init 41 = .ok (.putfield 23, 3) := by decide +kernel
set_option maxRecDepth 20000 in
theorem dX8_init_44 : decode cX8_init 44 = .ok (.aload_n 0, 1) := by decide +kernel
set_option maxRecDepth 20000 in
theorem dX8_init_45 : decode cX8_init 45 = .ok (.bipush 8, 2) := by decide +kernel
set_option maxRecDepth 20000 in
theorem dX8_init_47 : decode cX8_init 47 = .ok (.newarray .int, 2) := by decide +kernel
set_option maxRecDepth 20000 in
theorem dX8_init_49 : decode cX8_init 49 = .ok (.putfield 27, 3) := by decide +kernel
set_option maxRecDepth 20000 in
theorem dX8_init_52 : decode cX8_init 52 = .ok (.aload_n 0, 1) := by decide +kernel
set_option maxRecDepth 20000 in
theorem dX8_init_53 : decode cX8_init 53 = .ok (.bipush 56, 2) := by decide +kernel
set_option maxRecDepth 20000 in
theorem dX8_init_55 : decode cX8_init 55 = .ok (.newarray .long, 2) := by decide +kernel
set_option maxRecDepth 20000 in
theorem dX8_init_57 : decode cX8_init 57 = .ok (.putfield 30, 3) := by decide +kernel
set_option maxRecDepth 20000 in
theorem dX8_init_60 : decode cX8_init 60 = .ok (.aload_n 0, 1) := by decide +kernel
set_option maxRecDepth 20000 in
theorem dX8_init_61 : decode cX8_init 61 = .ok (.ldc 22, 2) := by decide +kernel
set_option maxRecDepth 20000 in
theorem dX8_init_63 : decode cX8_init 63 = .ok (.newarray .long, 2) := by decide +kernel
set_option maxRecDepth 20000 in
theorem dX8_init_65 : decode cX8_init 65 = .ok (.putfield 33, 3) := by decide +kernel
set_option maxRecDepth 20000 in
theorem dX8_init_68 : decode cX8_init 68 = .ok (.aload_n 0, 1) := by decide +kernel
set_option maxRecDepth 20000 in
theorem dX8_init_69 : decode cX8_init 69 = .ok (.ldc 22, 2) := by decide +kernel
set_option maxRecDepth 20000 in
theorem dX8_init_71 : decode cX8_init 71 = .ok (.newarray .int, 2) := by decide +kernel
set_option maxRecDepth 20000 in
theorem dX8_init_73 : decode cX8_init 73 = .ok (.putfield 36, 3) := by decide +kernel
set_option maxRecDepth 20000 in
theorem dX8_init_76 : decode cX8_init 76 = .ok (.aload_n 0, 1) := by decide +kernel
set_option maxRecDepth 20000 in
theorem dX8_init_77 : decode cX8_init 77 = .ok (.ldc 22, 2) := by decide +kernel
set_option maxRecDepth 20000 in
theorem dX8_init_79 : decode cX8_init 79 = .ok (.newarray .int, 2) := by decide +kernel
set_option maxRecDepth 20000 in
theorem dX8_init_81 : decode cX8_init 81 = .ok (.putfield 39, 3) := by decide +kernel
set_option maxRecDepth 20000 in
theorem dX8_init_84 : decode cX8_init 84 = .ok (.aload_n 0, 1) := by decide +kernel
set_option maxRecDepth 20000 in
theorem dX8_init_85 : decode cX8_init 85 = .ok (.bipush 8, 2) := by decide +kernel
set_option maxRecDepth 20000 in
theorem dX8_init_87 : decode cX8_init 87 = .ok (.newarray .int, 2) := by decide +kernel
set_option maxRecDepth 20000 in
theorem dX8_init_89 : decode cX8_init 89 = .ok (.putfield 42, 3) := by decide +kernel
set_option maxRecDepth 20000 in
theorem dX8_init_92 : decode cX8_init 92 = .ok (.aload_n 0, 1) := by decide +kernel
set_option maxRecDepth 20000 in
theorem dX8_init_93 : decode cX8_init 93 = .ok (.bipush 8, 2) := by decide +kernel
set_option maxRecDepth 20000 in
theorem dX8_init_95 : decode cX8_init 95 = .ok (.newarray .int, 2) := by decide +kernel
set_option maxRecDepth 20000 in
theorem dX8_init_97 : decode cX8_init 97 = .ok (.putfield 45, 3) := by decide +kernel
set_option maxRecDepth 20000 in
theorem dX8_init_100 : decode cX8_init 100 = .ok (.aload_n 0, 1) := by decide +kernel
set_option maxRecDepth 20000 in
theorem dX8_init_101 : decode cX8_init 101 = .ok (.ldc 48, 2) := by decide +kernel
set_option maxRecDepth 20000 in
theorem dX8_init_103 : decode cX8_init 103 = .ok (.newarray .long, 2) := by decide +kernel
set_option maxRecDepth 20000 in
theorem dX8_init_105 : decode cX8_init 105 = .ok (.putfield 49, 3) := by decide +kernel
set_option maxRecDepth 20000 in
theorem dX8_init_108 : decode cX8_init 108 = .ok (.aload_n 0, 1) := by decide +kernel
set_option maxRecDepth 20000 in
theorem dX8_init_109 : decode cX8_init 109 = .ok (.bipush 8, 2) := by decide +kernel
set_option maxRecDepth 20000 in
theorem dX8_init_111 : decode cX8_init 111 = .ok (.newarray .int, 2) := by decide +kernel
set_option maxRecDepth 20000 in
theorem dX8_init_113 : decode cX8_init 113 = .ok (.putfield 52, 3) := by decide +kernel
set_option maxRecDepth 20000 in
theorem dX8_init_116 : decode cX8_init 116 = .ok (.aload_n 0, 1) := by decide +kernel
set_option maxRecDepth 20000 in
theorem dX8_init_117 : decode cX8_init 117 = .ok (.bipush 8, 2) := by decide +kernel
set_option maxRecDepth 20000 in
theorem dX8_init_119 : decode cX8_init 119 = .ok (.newarray .int, 2) := by decide +kernel
set_option maxRecDepth 20000 in
theorem dX8_init_121 : decode cX8_init 121 = .ok (.putfield 55, 3) := by decide +kernel
set_option maxRecDepth 20000 in
theorem dX8_init_124 : decode cX8_init 124 = .ok (.aload_n 0, 1) := by decide +kernel
set_option maxRecDepth 20000 in
theorem dX8_init_125 : decode cX8_init 125 = .ok (.bipush 72, 2) := by decide +kernel
set_option maxRecDepth 20000 in
theorem dX8_init_127 : decode cX8_init 127 = .ok (.newarray .boolean, 2) := by decide +kernel
set_option maxRecDepth 20000 in
theorem dX8_init_129 : decode cX8_init 129 = .ok (.putfield 58, 3) := by decide +kernel
set_option maxRecDepth 20000 in
theorem dX8_init_132 : decode cX8_init 132 = .ok (.aload_n 0, 1) := by decide +kernel
set_option maxRecDepth 20000 in
theorem dX8_init_133 : decode cX8_init 133 = .ok (.bipush 8, 2) := by decide +kernel
set_option maxRecDepth 20000 in
theorem dX8_init_135 : decode cX8_init 135 = .ok (.newarray .int, 2) := by decide +kernel
set_option maxRecDepth 20000 in
theorem dX8_init_137 : decode cX8_init 137 = .ok (.putfield 62, 3) := by decide +kernel
set_option maxRecDepth 20000 in
theorem dX8_init_140 : decode cX8_init 140 = .ok (.aload_n 0, 1) := by decide +kernel
set_option maxRecDepth 20000 in
theorem dX8_init_141 : decode cX8_init 141 = .ok (.ldc 65, 2) := by decide +kernel
set_option maxRecDepth 20000 in
theorem dX8_init_143 : decode cX8_init 143 = .ok (.newarray .int, 2) := by decide +kernel
set_option maxRecDepth 20000 in
theorem dX8_init_145 : decode cX8_init 145 = .ok (.putfield 66, 3) := by decide +kernel
set_option maxRecDepth 20000 in
theorem dX8_init_148 : decode cX8_init 148 = .ok (.aload_n 0, 1) := by decide +kernel
set_option maxRecDepth 20000 in
theorem dX8_init_149 : decode cX8_init 149 = .ok (.bipush 6, 2) := by decide +kernel
set_option maxRecDepth 20000 in
theorem dX8_init_151 : decode cX8_init 151 = .ok (.newarray .long, 2) := by decide +kernel
set_option maxRecDepth 20000 in
theorem dX8_init_153 : decode cX8_init 153 = .ok (.putfield 69, 3) := by decide +kernel
set_option maxRecDepth 20000 in
theorem dX8_init_156 : decode cX8_init 156 = .ok (.aload_n 0, 1) := by decide +kernel
set_option maxRecDepth 20000 in
theorem dX8_init_157 : decode cX8_init 157 = .ok (.bipush 48, 2) := by decide +kernel
set_option maxRecDepth 20000 in
theorem dX8_init_159 : decode cX8_init 159 = .ok (.newarray .long, 2) := by decide +kernel
set_option maxRecDepth 20000 in
theorem dX8_init_161 : decode cX8_init 161 = .ok (.putfield 72, 3) := by decide +kernel
set_option maxRecDepth 20000 in
theorem dX8_init_164 : decode cX8_init 164 = .ok (.aload_n 0, 1) := by decide +kernel
set_option maxRecDepth 20000 in
theorem dX8_init_165 : decode cX8_init 165 = .ok (.bipush 8, 2) := by decide +kernel
set_option maxRecDepth 20000 in
theorem dX8_init_167 : decode cX8_init 167 = .ok (.newarray .int, 2) := by decide +kernel
set_option maxRecDepth 20000 in
theorem dX8_init_169 : decode cX8_init 169 = .ok (.putfield 75, 3) := by decide +kernel
set_option maxRecDepth 20000 in
theorem dX8_init_172 : decode cX8_init 172 = .ok (.aload_n 0, 1) := by decide +kernel
set_option maxRecDepth 20000 in
theorem dX8_init_173 : decode cX8_init 173 = .ok (.lconst 1, 1) := by decide +kernel
set_option maxRecDepth 20000 in
theorem dX8_init_174 : decode cX8_init 174 = .ok (.putfield 78, 3) := by decide +kernel
set_option maxRecDepth 20000 in
theorem dX8_init_177 : decode cX8_init 177 = .ok (.return_, 1) := by decide +kernel
set_option maxHeartbeats 4000000 in
set_option maxRecDepth 100000 in
theorem c_X8_init : ConA mu_X8_init [.ref 0] [.inr (8, [.int 0, .int 0, .null, .null, .null, .long 0, .long 0, .null, .int 0, .null, .null, .null, .null, .null, .null, .int 0, .null, .null, .int 0, .null, .null, .null, .null, .null, .null, .long 0, .null, .null, .null])] wi_X8 := by
  refine ConA.mk (show plainName RX8 = true by decide +kernel) (leb rfl) (roHi.nil rfl rfl) (leb rfl) rfl (fun κ ω A ad δ => ?_)
  change GG mu_X8_init κ ω A (QA κ ω A ad 1 wi_X8 mu_X8_init.2.2.2.2.1.cells mu_X8_init.2.2.2.2.1.slots) (ext ad 1 δ) 0 0 0 [.inr (8, [.int 0, .int 0, .null, .null, .null, .long 0, .long 0, .null, .int 0, .null, .null, .null, .null, .null, .null, .int 0, .null, .null, .int 0, .null, .null, .null, .null, .null, .null, .long 0, .null, .null, .null])] [some (.ref 0)] []
  refine G_aload_n dX8_init_0 rfl rfl ?_
  refine G_objInit dX8_init_1 mo_X8_1 oi_i oi_c (leb rfl) (leb rfl) ?_
  refine G_aload_n dX8_init_4 rfl rfl ?_
  refine G_bipush 6 dX8_init_5 (by decide) ?_
  refine G_newarr (t := 0) (a0 := (6, .inl (fun _ => 0))) (L := 1) (N := 6) dX8_init_7 rfl aw_0 rfl ra_int (fun _ => rfl) (by decide) (by decide) (lel (a' := 24) (b' := 536870912) rfl rfl rfl) (lel (a' := 1) (b' := 21) rfl rfl rfl) (lel (a' := 6) (b' := 1528138) rfl rfl rfl) (roHi.nil rfl rfl) (leb rfl) rfl (fun δ => ?_)
  change GG _ _ _ _ _ _ 1 6 _ [.inr (8, [.int 0, .int 0, .null, .null, .null, .long 0, .long 0, .null, .int 0, .null, .null, .null, .null, .null, .null, .int 0, .null, .null, .int 0, .null, .null, .null, .null, .null, .null, .long 0, .null, .null, .null]), .inl (0, 6, .inl (fun _ => 0))] [some (.ref 0)] [.ref 1, .ref 0]
  refine G_putF (w2 := [.inr (8, [.int 0, .int 0, .ref 1, .null, .null, .long 0, .long 0, .null, .int 0, .null, .null, .null, .null, .null, .null, .int 0, .null, .null, .int 0, .null, .null, .null, .null, .null, .null, .long 0, .null, .null, .null]), .inl (0, 6, .inl (fun _ => 0))]) F_X8_7 rfl (fun _ _ _ h => by cases h; rfl) dX8_init_9 rfl rfl rfl (ltb rfl) rfl ?_
  refine G_aload_n dX8_init_12 rfl rfl ?_
  refine G_bipush 48 dX8_init_13 (by decide) ?_
  refine G_newarr (t := 0) (a0 := (48, .inl (fun _ => 0))) (L := 2) (N := 48) dX8_init_15 rfl aw_0 rfl ra_int (fun _ => rfl) (by decide) (by decide) (lel (a' := 192) (b' := 536870912) rfl rfl rfl) (lel (a' := 2) (b' := 21) rfl rfl rfl) (lel (a' := 54) (b' := 1528138) rfl rfl rfl) (roHi.nil rfl rfl) (leb rfl) rfl (fun δ => ?_)
  change GG _ _ _ _ _ _ 2 54 _ [.inr (8, [.int 0, .int 0, .ref 1, .null, .null, .long 0, .long 0, .null, .int 0, .null, .null, .null, .null, .null, .null, .int 0, .null, .null, .int 0, .null, .null, .null, .null, .null, .null, .long 0, .null, .null, .null]), .inl (0, 6, .inl (fun _ => 0)), .inl (0, 48, .inl (fun _ => 0))] [some (.ref 0)] [.ref 2, .ref 0]
  refine G_putF (w2 := [.inr (8, [.int 0, .int 0, .ref 1, .ref 2, .null, .long 0, .long 0, .null, .int 0, .null, .null, .null, .null, .null, .null, .int 0, .null, .null, .int 0, .null, .null, .null, .null, .null, .null, .long 0, .null, .null, .null]), .inl (0, 6, .inl (fun _ => 0)), .inl (0, 48, .inl (fun _ => 0))]) F_X8_13 rfl (fun _ _ _ h => by cases h; rfl) dX8_init_17 rfl rfl rfl (ltb rfl) rfl ?_
  refine G_aload_n dX8_init_20 rfl rfl ?_
  refine G_bipush 32 dX8_init_21 (by decide) ?_
  refine G_newarr (t := 0) (a0 := (32, .inl (fun _ => 0))) (L := 3) (N := 32) dX8_init_23 rfl aw_0 rfl ra_int (fun _ => rfl) (by decide) (by decide) (lel (a' := 128) (b' := 536870912) rfl rfl rfl) (lel (a' := 3) (b' := 21) rfl rfl rfl) (lel (a' := 86) (b' := 1528138) rfl rfl rfl) (roHi.nil rfl rfl) (leb rfl) rfl (fun δ => ?_)
  change GG _ _ _ _ _ _ 3 86 _ [.inr (8, [.int 0, .int 0, .ref 1, .ref 2, .null, .long 0, .long 0, .null, .int 0, .null, .null, .null, .null, .null, .null, .int 0, .null, .null, .int 0, .null, .null, .null, .null, .null, .null, .long 0, .null, .null, .null]), .inl (0, 6, .inl (fun _ => 0)), .inl (0, 48, .inl (fun _ => 0)), .inl (0, 32, .inl (fun _ => 0))] [some (.ref 0)] [.ref 3, .ref 0]
  refine G_putF (w2 := [.inr (8, [.int 0, .int 0, .ref 1, .ref 2, .ref 3, .long 0, .long 0, .null, .int 0, .null, .null, .null, .null, .null, .null, .int 0, .null, .null, .int 0, .null, .null, .null, .null, .null, .null, .long 0, .null, .null, .null]), .inl (0, 6, .inl (fun _ => 0)), .inl (0, 48, .inl (fun _ => 0)), .inl (0, 32, .inl (fun _ => 0))]) F_X8_16 rfl (fun _ _ _ h => by cases h; rfl) dX8_init_25 rfl rfl rfl (ltb rfl) rfl ?_
  refine G_aload_n dX8_init_28 rfl rfl ?_
  refine G_bipush 6 dX8_init_29 (by decide) ?_
  refine G_newarr (t := 0) (a0 := (6, .inl (fun _ => 0))) (L := 4) (N := 6) dX8_init_31 rfl aw_0 rfl ra_int (fun _ => rfl) (by decide) (by decide) (lel (a' := 24) (b' := 536870912) rfl rfl rfl) (lel (a' := 4) (b' := 21) rfl rfl rfl) (lel (a' := 92) (b' := 1528138) rfl rfl rfl) (roHi.nil rfl rfl) (leb rfl) rfl (fun δ => ?_)
  change GG _ _ _ _ _ _ 4 92 _ [.inr (8, [.int 0, .int 0, .ref 1, .ref 2, .ref 3, .long 0, .long 0, .null, .int 0, .null, .null, .null, .null, .null, .null, .int 0, .null, .null, .int 0, .null, .null, .null, .null, .null, .null, .long 0, .null, .null, .null]), .inl (0, 6, .inl (fun _ => 0)), .inl (0, 48, .inl (fun _ => 0)), .inl (0, 32, .inl (fun _ => 0)), .inl (0, 6, .inl (fun _ => 0))] [some (.ref 0)] [.ref 4, .ref 0]
  refine G_putF (w2 := [.inr (8, [.int 0, .int 0, .ref 1, .ref 2, .ref 3, .long 0, .long 0, .ref 4, .int 0, .null, .null, .null, .null, .null, .null, .int 0, .null, .null, .int 0, .null, .null, .null, .null, .null, .null, .long 0, .null, .null, .null]), .inl (0, 6, .inl (fun _ => 0)), .inl (0, 48, .inl (fun _ => 0)), .inl (0, 32, .inl (fun _ => 0)), .inl (0, 6, .inl (fun _ => 0))]) F_X8_19 rfl (fun _ _ _ h => by cases h; rfl) dX8_init_33 rfl rfl rfl (ltb rfl) rfl ?_
  refine G_aload_n dX8_init_36 rfl rfl ?_
  refine G_ldc (v := 36864) dX8_init_37 k_X8_22 ?_
  refine G_newarr (t := 1) (a0 := (36864, .inr (.inl (fun _ => 0)))) (L := 5) (N := 36864) dX8_init_39 rfl aw_1 rfl ra_long (fun _ => rfl) (by decide) (by decide) (lel (a' := 294912) (b' := 536870912) rfl rfl rfl) (lel (a' := 5) (b' := 21) rfl rfl rfl) (lel (a' := 36956) (b' := 1528138) rfl rfl rfl) (roHi.nil rfl rfl) (leb rfl) rfl (fun δ => ?_)
  change GG _ _ _ _ _ _ 5 36956 _ [.inr (8, [.int 0, .int 0, .ref 1, .ref 2, .ref 3, .long 0, .long 0, .ref 4, .int 0, .null, .null, .null, .null, .null, .null, .int 0, .null, .null, .int 0, .null, .null, .null, .null, .null, .null, .long 0, .null, .null, .null]), .inl (0, 6, .inl (fun _ => 0)), .inl (0, 48, .inl (fun _ => 0)), .inl (0, 32, .inl (fun _ => 0)), .inl (0, 6, .inl (fun _ => 0)), .inl (1, 36864, .inr (.inl (fun _ => 0)))] [some (.ref 0)] [.ref 5, .ref 0]
  refine G_putF (w2 := [.inr (8, [.int 0, .int 0, .ref 1, .ref 2, .ref 3, .long 0, .long 0, .ref 4, .int 0, .ref 5, .null, .null, .null, .null, .null, .int 0, .null, .null, .int 0, .null, .null, .null, .null, .null, .null, .long 0, .null, .null, .null]), .inl (0, 6, .inl (fun _ => 0)), .inl (0, 48, .inl (fun _ => 0)), .inl (0, 32, .inl (fun _ => 0)), .inl (0, 6, .inl (fun _ => 0)), .inl (1, 36864, .inr (.inl (fun _ => 0)))]) F_X8_23 rfl (fun _ _ _ h => by cases h; rfl) dX8_init_41 rfl rfl rfl (ltb rfl) rfl ?_
  refine G_aload_n dX8_init_44 rfl rfl ?_
  refine G_bipush 8 dX8_init_45 (by decide) ?_
  refine G_newarr (t := 0) (a0 := (8, .inl (fun _ => 0))) (L := 6) (N := 8) dX8_init_47 rfl aw_0 rfl ra_int (fun _ => rfl) (by decide) (by decide) (lel (a' := 32) (b' := 536870912) rfl rfl rfl) (lel (a' := 6) (b' := 21) rfl rfl rfl) (lel (a' := 36964) (b' := 1528138) rfl rfl rfl) (roHi.nil rfl rfl) (leb rfl) rfl (fun δ => ?_)
  change GG _ _ _ _ _ _ 6 36964 _ [.inr (8, [.int 0, .int 0, .ref 1, .ref 2, .ref 3, .long 0, .long 0, .ref 4, .int 0, .ref 5, .null, .null, .null, .null, .null, .int 0, .null, .null, .int 0, .null, .null, .null, .null, .null, .null, .long 0, .null, .null, .null]), .inl (0, 6, .inl (fun _ => 0)), .inl (0, 48, .inl (fun _ => 0)), .inl (0, 32, .inl (fun _ => 0)), .inl (0, 6, .inl (fun _ => 0)), .inl (1, 36864, .inr (.inl (fun _ => 0))), .inl (0, 8, .inl (fun _ => 0))] [some (.ref 0)] [.ref 6, .ref 0]
  refine G_putF (w2 := [.inr (8, [.int 0, .int 0, .ref 1, .ref 2, .ref 3, .long 0, .long 0, .ref 4, .int 0, .ref 5, .ref 6, .null, .null, .null, .null, .int 0, .null, .null, .int 0, .null, .null, .null, .null, .null, .null, .long 0, .null, .null, .null]), .inl (0, 6, .inl (fun _ => 0)), .inl (0, 48, .inl (fun _ => 0)), .inl (0, 32, .inl (fun _ => 0)), .inl (0, 6, .inl (fun _ => 0)), .inl (1, 36864, .inr (.inl (fun _ => 0))), .inl (0, 8, .inl (fun _ => 0))]) F_X8_27 rfl (fun _ _ _ h => by cases h; rfl) dX8_init_49 rfl rfl rfl (ltb rfl) rfl ?_
  refine G_aload_n dX8_init_52 rfl rfl ?_
  refine G_bipush 56 dX8_init_53 (by decide) ?_
  refine G_newarr (t := 1) (a0 := (56, .inr (.inl (fun _ => 0)))) (L := 7) (N := 56) dX8_init_55 rfl aw_1 rfl ra_long (fun _ => rfl) (by decide) (by decide) (lel (a' := 448) (b' := 536870912) rfl rfl rfl) (lel (a' := 7) (b' := 21) rfl rfl rfl) (lel (a' := 37020) (b' := 1528138) rfl rfl rfl) (roHi.nil rfl rfl) (leb rfl) rfl (fun δ => ?_)
  change GG _ _ _ _ _ _ 7 37020 _ [.inr (8, [.int 0, .int 0, .ref 1, .ref 2, .ref 3, .long 0, .long 0, .ref 4, .int 0, .ref 5, .ref 6, .null, .null, .null, .null, .int 0, .null, .null, .int 0, .null, .null, .null, .null, .null, .null, .long 0, .null, .null, .null]), .inl (0, 6, .inl (fun _ => 0)), .inl (0, 48, .inl (fun _ => 0)), .inl (0, 32, .inl (fun _ => 0)), .inl (0, 6, .inl (fun _ => 0)), .inl (1, 36864, .inr (.inl (fun _ => 0))), .inl (0, 8, .inl (fun _ => 0)), .inl (1, 56, .inr (.inl (fun _ => 0)))] [some (.ref 0)] [.ref 7, .ref 0]
  refine G_putF (w2 := [.inr (8, [.int 0, .int 0, .ref 1, .ref 2, .ref 3, .long 0, .long 0, .ref 4, .int 0, .ref 5, .ref 6, .ref 7, .null, .null, .null, .int 0, .null, .null, .int 0, .null, .null, .null, .null, .null, .null, .long 0, .null, .null, .null]), .inl (0, 6, .inl (fun _ => 0)), .inl (0, 48, .inl (fun _ => 0)), .inl (0, 32, .inl (fun _ => 0)), .inl (0, 6, .inl (fun _ => 0)), .inl (1, 36864, .inr (.inl (fun _ => 0))), .inl (0, 8, .inl (fun _ => 0)), .inl (1, 56, .inr (.inl (fun _ => 0)))]) F_X8_30 rfl (fun _ _ _ h => by cases h; rfl) dX8_init_57 rfl rfl rfl (ltb rfl) rfl ?_
  refine G_aload_n dX8_init_60 rfl rfl ?_
  refine G_ldc (v := 36864) dX8_init_61 k_X8_22 ?_
  refine G_newarr (t := 1) (a0 := (36864, .inr (.inl (fun _ => 0)))) (L := 8) (N := 36864) dX8_init_63 rfl aw_1 rfl ra_long (fun _ => rfl) (by decide) (by decide) (lel (a' := 294912) (b' := 536870912) rfl rfl rfl) (lel (a' := 8) (b' := 21) rfl rfl rfl) (lel (a' := 73884) (b' := 1528138) rfl rfl rfl) (roHi.nil rfl rfl) (leb rfl) rfl (fun δ => ?_)
  change GG _ _ _ _ _ _ 8 73884 _ [.inr (8, [.int 0, .int 0, .ref 1, .ref 2, .ref 3, .long 0, .long 0, .ref 4, .int 0, .ref 5, .ref 6, .ref 7, .null, .null, .null, .int 0, .null, .null, .int 0, .null, .null, .null, .null, .null, .null, .long 0, .null, .null, .null]), .inl (0, 6, .inl (fun _ => 0)), .inl (0, 48, .inl (fun _ => 0)), .inl (0, 32, .inl (fun _ => 0)), .inl (0, 6, .inl (fun _ => 0)), .inl (1, 36864, .inr (.inl (fun _ => 0))), .inl (0, 8, .inl (fun _ => 0)), .inl (1, 56, .inr (.inl (fun _ => 0))), .inl (1, 36864, .inr (.inl (fun _ => 0)))] [some (.ref 0)] [.ref 8, .ref 0]
  refine G_putF (w2 := [.inr (8, [.int 0, .int 0, .ref 1, .ref 2, .ref 3, .long 0, .long 0, .ref 4, .int 0, .ref 5, .ref 6, .ref 7, .ref 8, .null, .null, .int 0, .null, .null, .int 0, .null, .null, .null, .null, .null, .null, .long 0, .null, .null, .null]), .inl (0, 6, .inl (fun _ => 0)), .inl (0, 48, .inl (fun _ => 0)), .inl (0, 32, .inl (fun _ => 0)), .inl (0, 6, .inl (fun _ => 0)), .inl (1, 36864, .inr (.inl (fun _ => 0))), .inl (0, 8, .inl (fun _ => 0)), .inl (1, 56, .inr (.inl (fun _ => 0))), .inl (1, 36864, .inr (.inl (fun _ => 0)))]) F_X8_33 rfl (fun _ _ _ h => by cases h; rfl) dX8_init_65 rfl rfl rfl (ltb rfl) rfl ?_
  refine G_aload_n dX8_init_68 rfl rfl ?_
  refine G_ldc (v := 36864) dX8_init_69 k_X8_22 ?_
  refine G_newarr (t := 0) (a0 := (36864, .inl (fun _ => 0))) (L := 9) (N := 36864) dX8_init_71 rfl aw_0 rfl ra_int (fun _ => rfl) (by decide) (by decide) (lel (a' := 147456) (b' := 536870912) rfl rfl rfl) (lel (a' := 9) (b' := 21) rfl rfl rfl) (lel (a' := 110748) (b' := 1528138) rfl rfl rfl) (roHi.nil rfl rfl) (leb rfl) rfl (fun δ => ?_)
  change GG _ _ _ _ _ _ 9 110748 _ [.inr (8, [.int 0, .int 0, .ref 1, .ref 2, .ref 3, .long 0, .long 0, .ref 4, .int 0, .ref 5, .ref 6, .ref 7, .ref 8, .null, .null, .int 0, .null, .null, .int 0, .null, .null, .null, .null, .null, .null, .long 0, .null, .null, .null]), .inl (0, 6, .inl (fun _ => 0)), .inl (0, 48, .inl (fun _ => 0)), .inl (0, 32, .inl (fun _ => 0)), .inl (0, 6, .inl (fun _ => 0)), .inl (1, 36864, .inr (.inl (fun _ => 0))), .inl (0, 8, .inl (fun _ => 0)), .inl (1, 56, .inr (.inl (fun _ => 0))), .inl (1, 36864, .inr (.inl (fun _ => 0))), .inl (0, 36864, .inl (fun _ => 0))] [some (.ref 0)] [.ref 9, .ref 0]
  refine G_putF (w2 := [.inr (8, [.int 0, .int 0, .ref 1, .ref 2, .ref 3, .long 0, .long 0, .ref 4, .int 0, .ref 5, .ref 6, .ref 7, .ref 8, .ref 9, .null, .int 0, .null, .null, .int 0, .null, .null, .null, .null, .null, .null, .long 0, .null, .null, .null]), .inl (0, 6, .inl (fun _ => 0)), .inl (0, 48, .inl (fun _ => 0)), .inl (0, 32, .inl (fun _ => 0)), .inl (0, 6, .inl (fun _ => 0)), .inl (1, 36864, .inr (.inl (fun _ => 0))), .inl (0, 8, .inl (fun _ => 0)), .inl (1, 56, .inr (.inl (fun _ => 0))), .inl (1, 36864, .inr (.inl (fun _ => 0))), .inl (0, 36864, .inl (fun _ => 0))]) F_X8_36 rfl (fun _ _ _ h => by cases h; rfl) dX8_init_73 rfl rfl rfl (ltb rfl) rfl ?_
  refine G_aload_n dX8_init_76 rfl rfl ?_
  refine G_ldc (v := 36864) dX8_init_77 k_X8_22 ?_
  refine G_newarr (t := 0) (a0 := (36864, .inl (fun _ => 0))) (L := 10) (N := 36864) dX8_init_79 rfl aw_0 rfl ra_int (fun _ => rfl) (by decide) (by decide) (lel (a' := 147456) (b' := 536870912) rfl rfl rfl) (lel (a' := 10) (b' := 21) rfl rfl rfl) (lel (a' := 147612) (b' := 1528138) rfl rfl rfl) (roHi.nil rfl rfl) (leb rfl) rfl (fun δ => ?_)
  change GG _ _ _ _ _ _ 10 147612 _ [.inr (8, [.int 0, .int 0, .ref 1, .ref 2, .ref 3, .long 0, .long 0, .ref 4, .int 0, .ref 5, .ref 6, .ref 7, .ref 8, .ref 9, .null, .int 0, .null, .null, .int 0, .null, .null, .null, .null, .null, .null, .long 0, .null, .null, .null]), .inl (0, 6, .inl (fun _ => 0)), .inl (0, 48, .inl (fun _ => 0)), .inl (0, 32, .inl (fun _ => 0)), .inl (0, 6, .inl (fun _ => 0)), .inl (1, 36864, .inr (.inl (fun _ => 0))), .inl (0, 8, .inl (fun _ => 0)), .inl (1, 56, .inr (.inl (fun _ => 0))), .inl (1, 36864, .inr (.inl (fun _ => 0))), .inl (0, 36864, .inl (fun _ => 0)), .inl (0, 36864, .inl (fun _ => 0))] [some (.ref 0)] [.ref 10, .ref 0]
  refine G_putF (w2 := [.inr (8, [.int 0, .int 0, .ref 1, .ref 2, .ref 3, .long 0, .long 0, .ref 4, .int 0, .ref 5, .ref 6, .ref 7, .ref 8, .ref 9, .ref 10, .int 0, .null, .null, .int 0, .null, .null, .null, .null, .null, .null, .long 0, .null, .null, .null]), .inl (0, 6, .inl (fun _ => 0)), .inl (0, 48, .inl (fun _ => 0)), .inl (0, 32, .inl (fun _ => 0)), .inl (0, 6, .inl (fun _ => 0)), .inl (1, 36864, .inr (.inl (fun _ => 0))), .inl (0, 8, .inl (fun _ => 0)), .inl (1, 56, .inr (.inl (fun _ => 0))), .inl (1, 36864, .inr (.inl (fun _ => 0))), .inl (0, 36864, .inl (fun _ => 0)), .inl (0, 36864, .inl (fun _ => 0))]) F_X8_39 rfl (fun _ _ _ h => by cases h; rfl) dX8_init_81 rfl rfl rfl (ltb rfl) rfl ?_
  refine G_aload_n dX8_init_84 rfl rfl ?_
  refine G_bipush 8 dX8_init_85 (by decide) ?_
  refine G_newarr (t := 0) (a0 := (8, .inl (fun _ => 0))) (L := 11) (N := 8) dX8_init_87 rfl aw_0 rfl ra_int (fun _ => rfl) (by decide) (by decide) (lel (a' := 32) (b' := 536870912) rfl rfl rfl) (lel (a' := 11) (b' := 21) rfl rfl rfl) (lel (a' := 147620) (b' := 1528138) rfl rfl rfl) (roHi.nil rfl rfl) (leb rfl) rfl (fun δ => ?_)
  change GG _ _ _ _ _ _ 11 147620 _ [.inr (8, [.int 0, .int 0, .ref 1, .ref 2, .ref 3, .long 0, .long 0, .ref 4, .int 0, .ref 5, .ref 6, .ref 7, .ref 8, .ref 9, .ref 10, .int 0, .null, .null, .int 0, .null, .null, .null, .null, .null, .null, .long 0, .null, .null, .null]), .inl (0, 6, .inl (fun _ => 0)), .inl (0, 48, .inl (fun _ => 0)), .inl (0, 32, .inl (fun _ => 0)), .inl (0, 6, .inl (fun _ => 0)), .inl (1, 36864, .inr (.inl (fun _ => 0))), .inl (0, 8, .inl (fun _ => 0)), .inl (1, 56, .inr (.inl (fun _ => 0))), .inl (1, 36864, .inr (.inl (fun _ => 0))), .inl (0, 36864, .inl (fun _ => 0)), .inl (0, 36864, .inl (fun _ => 0)), .inl (0, 8, .inl (fun _ => 0))] [some (.ref 0)] [.ref 11, .ref 0]
  refine G_putF (w2 := [.inr (8, [.int 0, .int 0, .ref 1, .ref 2, .ref 3, .long 0, .long 0, .ref 4, .int 0, .ref 5, .ref 6, .ref 7, .ref 8, .ref 9, .ref 10, .int 0, .ref 11, .null, .int 0, .null, .null, .null, .null, .null, .null, .long 0, .null, .null, .null]), .inl (0, 6, .inl (fun _ => 0)), .inl (0, 48, .inl (fun _ => 0)), .inl (0, 32, .inl (fun _ => 0)), .inl (0, 6, .inl (fun _ => 0)), .inl (1, 36864, .inr (.inl (fun _ => 0))), .inl (0, 8, .inl (fun _ => 0)), .inl (1, 56, .inr (.inl (fun _ => 0))), .inl (1, 36864, .inr (.inl (fun _ => 0))), .inl (0, 36864, .inl (fun _ => 0)), .inl (0, 36864, .inl (fun _ => 0)), .inl (0, 8, .inl (fun _ => 0))]) F_X8_42 rfl (fun _ _ _ h => by cases h; rfl) dX8_init_89 rfl rfl rfl (ltb rfl) rfl ?_
  refine G_aload_n dX8_init_92 rfl rfl ?_
  refine G_bipush 8 dX8_init_93 (by decide) ?_
  refine G_newarr (t := 0) (a0 := (8, .inl (fun _ => 0))) (L := 12) (N := 8) dX8_init_95 rfl aw_0 rfl ra_int (fun _ => rfl) (by decide) (by decide) (lel (a' := 32) (b' := 536870912) rfl rfl rfl) (lel (a' := 12) (b' := 21) rfl rfl rfl) (lel (a' := 147628) (b' := 1528138) rfl rfl rfl) (roHi.nil rfl rfl) (leb rfl) rfl (fun δ => ?_)
  change GG _ _ _ _ _ _ 12 147628 _ [.inr (8, [.int 0, .int 0, .ref 1, .ref 2, .ref 3, .long 0, .long 0, .ref 4, .int 0, .ref 5, .ref 6, .ref 7, .ref 8, .ref 9, .ref 10, .int 0, .ref 11, .null, .int 0, .null, .null, .null, .null, .null, .null, .long 0, .null, .null, .null]), .inl (0, 6, .inl (fun _ => 0)), .inl (0, 48, .inl (fun _ => 0)), .inl (0, 32, .inl (fun _ => 0)), .inl (0, 6, .inl (fun _ => 0)), .inl (1, 36864, .inr (.inl (fun _ => 0))), .inl (0, 8, .inl (fun _ => 0)), .inl (1, 56, .inr (.inl (fun _ => 0))), .inl (1, 36864, .inr (.inl (fun _ => 0))), .inl (0, 36864, .inl (fun _ => 0)), .inl (0, 36864, .inl (fun _ => 0)), .inl (0, 8, .inl (fun _ => 0)), .inl (0, 8, .inl (fun _ => 0))] [some (.ref 0)] [.ref 12, .ref 0]
  refine G_putF (w2 := [.inr (8, [.int 0, .int 0, .ref 1, .ref 2, .ref 3, .long 0, .long 0, .ref 4, .int 0, .ref 5, .ref 6, .ref 7, .ref 8, .ref 9, .ref 10, .int 0, .ref 11, .ref 12, .int 0, .null, .null, .null, .null, .null, .null, .long 0, .null, .null, .null]), .inl (0, 6, .inl (fun _ => 0)), .inl (0, 48, .inl (fun _ => 0)), .inl (0, 32, .inl (fun _ => 0)), .inl (0, 6, .inl (fun _ => 0)), .inl (1, 36864, .inr (.inl (fun _ => 0))), .inl (0, 8, .inl (fun _ => 0)), .inl (1, 56, .inr (.inl (fun _ => 0))), .inl (1, 36864, .inr (.inl (fun _ => 0))), .inl (0, 36864, .inl (fun _ => 0)), .inl (0, 36864, .inl (fun _ => 0)), .inl (0, 8, .inl (fun _ => 0)), .inl (0, 8, .inl (fun _ => 0))]) F_X8_45 rfl (fun _ _ _ h => by cases h; rfl) dX8_init_97 rfl rfl rfl (ltb rfl) rfl ?_
  refine G_aload_n dX8_init_100 rfl rfl ?_
  refine G_ldc (v := 331776) dX8_init_101 k_X8_48 ?_
  refine G_newarr (t := 1) (a0 := (331776, .inr (.inl (fun _ => 0)))) (L := 13) (N := 331776) dX8_init_103 rfl aw_1 rfl ra_long (fun _ => rfl) (by decide) (by decide) (lel (a' := 2654208) (b' := 536870912) rfl rfl rfl) (lel (a' := 13) (b' := 21) rfl rfl rfl) (lel (a' := 479404) (b' := 1528138) rfl rfl rfl) (roHi.nil rfl rfl) (leb rfl) rfl (fun δ => ?_)
  change GG _ _ _ _ _ _ 13 479404 _ [.inr (8, [.int 0, .int 0, .ref 1, .ref 2, .ref 3, .long 0, .long 0, .ref 4, .int 0, .ref 5, .ref 6, .ref 7, .ref 8, .ref 9, .ref 10, .int 0, .ref 11, .ref 12, .int 0, .null, .null, .null, .null, .null, .null, .long 0, .null, .null, .null]), .inl (0, 6, .inl (fun _ => 0)), .inl (0, 48, .inl (fun _ => 0)), .inl (0, 32, .inl (fun _ => 0)), .inl (0, 6, .inl (fun _ => 0)), .inl (1, 36864, .inr (.inl (fun _ => 0))), .inl (0, 8, .inl (fun _ => 0)), .inl (1, 56, .inr (.inl (fun _ => 0))), .inl (1, 36864, .inr (.inl (fun _ => 0))), .inl (0, 36864, .inl (fun _ => 0)), .inl (0, 36864, .inl (fun _ => 0)), .inl (0, 8, .inl (fun _ => 0)), .inl (0, 8, .inl (fun _ => 0)), .inl (1, 331776, .inr (.inl (fun _ => 0)))] [some (.ref 0)] [.ref 13, .ref 0]
  refine G_putF (w2 := [.inr (8, [.int 0, .int 0, .ref 1, .ref 2, .ref 3, .long 0, .long 0, .ref 4, .int 0, .ref 5, .ref 6, .ref 7, .ref 8, .ref 9, .ref 10, .int 0, .ref 11, .ref 12, .int 0, .ref 13, .null, .null, .null, .null, .null, .long 0, .null, .null, .null]), .inl (0, 6, .inl (fun _ => 0)), .inl (0, 48, .inl (fun _ => 0)), .inl (0, 32, .inl (fun _ => 0)), .inl (0, 6, .inl (fun _ => 0)), .inl (1, 36864, .inr (.inl (fun _ => 0))), .inl (0, 8, .inl (fun _ => 0)), .inl (1, 56, .inr (.inl (fun _ => 0))), .inl (1, 36864, .inr (.inl (fun _ => 0))), .inl (0, 36864, .inl (fun _ => 0)), .inl (0, 36864, .inl (fun _ => 0)), .inl (0, 8, .inl (fun _ => 0)), .inl (0, 8, .inl (fun _ => 0)), .inl (1, 331776, .inr (.inl (fun _ => 0)))]) F_X8_49 rfl (fun _ _ _ h => by cases h; rfl) dX8_init_105 rfl rfl rfl (ltb rfl) rfl ?_
  refine G_aload_n dX8_init_108 rfl rfl ?_
  refine G_bipush 8 dX8_init_109 (by decide) ?_
  refine G_newarr (t := 0) (a0 := (8, .inl (fun _ => 0))) (L := 14) (N := 8) dX8_init_111 rfl aw_0 rfl ra_int (fun _ => rfl) (by decide) (by decide) (lel (a' := 32) (b' := 536870912) rfl rfl rfl) (lel (a' := 14) (b' := 21) rfl rfl rfl) (lel (a' := 479412) (b' := 1528138) rfl rfl rfl) (roHi.nil rfl rfl) (leb rfl) rfl (fun δ => ?_)
  change GG _ _ _ _ _ _ 14 479412 _ [.inr (8, [.int 0, .int 0, .ref 1, .ref 2, .ref 3, .long 0, .long 0, .ref 4, .int 0, .ref 5, .ref 6, .ref 7, .ref 8, .ref 9, .ref 10, .int 0, .ref 11, .ref 12, .int 0, .ref 13, .null, .null, .null, .null, .null, .long 0, .null, .null, .null]), .inl (0, 6, .inl (fun _ => 0)), .inl (0, 48, .inl (fun _ => 0)), .inl (0, 32, .inl (fun _ => 0)), .inl (0, 6, .inl (fun _ => 0)), .inl (1, 36864, .inr (.inl (fun _ => 0))), .inl (0, 8, .inl (fun _ => 0)), .inl (1, 56, .inr (.inl (fun _ => 0))), .inl (1, 36864, .inr (.inl (fun _ => 0))), .inl (0, 36864, .inl (fun _ => 0)), .inl (0, 36864, .inl (fun _ => 0)), .inl (0, 8, .inl (fun _ => 0)), .inl (0, 8, .inl (fun _ => 0)), .inl (1, 331776, .inr (.inl (fun _ => 0))), .inl (0, 8, .inl (fun _ => 0))] [some (.ref 0)] [.ref 14, .ref 0]
  refine G_putF (w2 := [.inr (8, [.int 0, .int 0, .ref 1, .ref 2, .ref 3, .long 0, .long 0, .ref 4, .int 0, .ref 5, .ref 6, .ref 7, .ref 8, .ref 9, .ref 10, .int 0, .ref 11, .ref 12, .int 0, .ref 13, .ref 14, .null, .null, .null, .null, .long 0, .null, .null, .null]), .inl (0, 6, .inl (fun _ => 0)), .inl (0, 48, .inl (fun _ => 0)), .inl (0, 32, .inl (fun _ => 0)), .inl (0, 6, .inl (fun _ => 0)), .inl (1, 36864, .inr (.inl (fun _ => 0))), .inl (0, 8, .inl (fun _ => 0)), .inl (1, 56, .inr (.inl (fun _ => 0))), .inl (1, 36864, .inr (.inl (fun _ => 0))), .inl (0, 36864, .inl (fun _ => 0)), .inl (0, 36864, .inl (fun _ => 0)), .inl (0, 8, .inl (fun _ => 0)), .inl (0, 8, .inl (fun _ => 0)), .inl (1, 331776, .inr (.inl (fun _ => 0))), .inl (0, 8, .inl (fun _ => 0))]) F_X8_52 rfl (fun _ _ _ h => by cases h; rfl) dX8_init_113 rfl rfl rfl (ltb rfl) rfl ?_
  refine G_aload_n dX8_init_116 rfl rfl ?_
  refine G_bipush 8 dX8_init_117 (by decide) ?_
  refine G_newarr (t := 0) (a0 := (8, .inl (fun _ => 0))) (L := 15) (N := 8) dX8_init_119 rfl aw_0 rfl ra_int (fun _ => rfl) (by decide) (by decide) (lel (a' := 32) (b' := 536870912) rfl rfl rfl) (lel (a' := 15) (b' := 21) rfl rfl rfl) (lel (a' := 479420) (b' := 1528138) rfl rfl rfl) (roHi.nil rfl rfl) (leb rfl) rfl (fun δ => ?_)
  change GG _ _ _ _ _ _ 15 479420 _ [.inr (8, [.int 0, .int 0, .ref 1, .ref 2, .ref 3, .long 0, .long 0, .ref 4, .int 0, .ref 5, .ref 6, .ref 7, .ref 8, .ref 9, .ref 10, .int 0, .ref 11, .ref 12, .int 0, .ref 13, .ref 14, .null, .null, .null, .null, .long 0, .null, .null, .null]), .inl (0, 6, .inl (fun _ => 0)), .inl (0, 48, .inl (fun _ => 0)), .inl (0, 32, .inl (fun _ => 0)), .inl (0, 6, .inl (fun _ => 0)), .inl (1, 36864, .inr (.inl (fun _ => 0))), .inl (0, 8, .inl (fun _ => 0)), .inl (1, 56, .inr (.inl (fun _ => 0))), .inl (1, 36864, .inr (.inl (fun _ => 0))), .inl (0, 36864, .inl (fun _ => 0)), .inl (0, 36864, .inl (fun _ => 0)), .inl (0, 8, .inl (fun _ => 0)), .inl (0, 8, .inl (fun _ => 0)), .inl (1, 331776, .inr (.inl (fun _ => 0))), .inl (0, 8, .inl (fun _ => 0)), .inl (0, 8, .inl (fun _ => 0))] [some (.ref 0)] [.ref 15, .ref 0]
  refine G_putF (w2 := [.inr (8, [.int 0, .int 0, .ref 1, .ref 2, .ref 3, .long 0, .long 0, .ref 4, .int 0, .ref 5, .ref 6, .ref 7, .ref 8, .ref 9, .ref 10, .int 0, .ref 11, .ref 12, .int 0, .ref 13, .ref 14, .ref 15, .null, .null, .null, .long 0, .null, .null, .null]), .inl (0, 6, .inl (fun _ => 0)), .inl (0, 48, .inl (fun _ => 0)), .inl (0, 32, .inl (fun _ => 0)), .inl (0, 6, .inl (fun _ => 0)), .inl (1, 36864, .inr (.inl (fun _ => 0))), .inl (0, 8, .inl (fun _ => 0)), .inl (1, 56, .inr (.inl (fun _ => 0))), .inl (1, 36864, .inr (.inl (fun _ => 0))), .inl (0, 36864, .inl (fun _ => 0)), .inl (0, 36864, .inl (fun _ => 0)), .inl (0, 8, .inl (fun _ => 0)), .inl (0, 8, .inl (fun _ => 0)), .inl (1, 331776, .inr (.inl (fun _ => 0))), .inl (0, 8, .inl (fun _ => 0)), .inl (0, 8, .inl (fun _ => 0))]) F_X8_55 rfl (fun _ _ _ h => by cases h; rfl) dX8_init_121 rfl rfl rfl (ltb rfl) rfl ?_
  refine G_aload_n dX8_init_124 rfl rfl ?_
  refine G_bipush 72 dX8_init_125 (by decide) ?_
  refine G_newarr (t := 2) (a0 := (72, .inl (fun _ => 0))) (L := 16) (N := 72) dX8_init_127 rfl aw_2 rfl ra_bool (fun _ => rfl) (by decide) (by decide) (lel (a' := 72) (b' := 536870912) rfl rfl rfl) (lel (a' := 16) (b' := 21) rfl rfl rfl) (lel (a' := 479492) (b' := 1528138) rfl rfl rfl) (roHi.nil rfl rfl) (leb rfl) rfl (fun δ => ?_)
  change GG _ _ _ _ _ _ 16 479492 _ [.inr (8, [.int 0, .int 0, .ref 1, .ref 2, .ref 3, .long 0, .long 0, .ref 4, .int 0, .ref 5, .ref 6, .ref 7, .ref 8, .ref 9, .ref 10, .int 0, .ref 11, .ref 12, .int 0, .ref 13, .ref 14, .ref 15, .null, .null, .null, .long 0, .null, .null, .null]), .inl (0, 6, .inl (fun _ => 0)), .inl (0, 48, .inl (fun _ => 0)), .inl (0, 32, .inl (fun _ => 0)), .inl (0, 6, .inl (fun _ => 0)), .inl (1, 36864, .inr (.inl (fun _ => 0))), .inl (0, 8, .inl (fun _ => 0)), .inl (1, 56, .inr (.inl (fun _ => 0))), .inl (1, 36864, .inr (.inl (fun _ => 0))), .inl (0, 36864, .inl (fun _ => 0)), .inl (0, 36864, .inl (fun _ => 0)), .inl (0, 8, .inl (fun _ => 0)), .inl (0, 8, .inl (fun _ => 0)), .inl (1, 331776, .inr (.inl (fun _ => 0))), .inl (0, 8, .inl (fun _ => 0)), .inl (0, 8, .inl (fun _ => 0)), .inl (2, 72, .inl (fun _ => 0))] [some (.ref 0)] [.ref 16, .ref 0]
  refine G_putF (w2 := [.inr (8, [.int 0, .int 0, .ref 1, .ref 2, .ref 3, .long 0, .long 0, .ref 4, .int 0, .ref 5, .ref 6, .ref 7, .ref 8, .ref 9, .ref 10, .int 0, .ref 11, .ref 12, .int 0, .ref 13, .ref 14, .ref 15, .ref 16, .null, .null, .long 0, .null, .null, .null]), .inl (0, 6, .inl (fun _ => 0)), .inl (0, 48, .inl (fun _ => 0)), .inl (0, 32, .inl (fun _ => 0)), .inl (0, 6, .inl (fun _ => 0)), .inl (1, 36864, .inr (.inl (fun _ => 0))), .inl (0, 8, .inl (fun _ => 0)), .inl (1, 56, .inr (.inl (fun _ => 0))), .inl (1, 36864, .inr (.inl (fun _ => 0))), .inl (0, 36864, .inl (fun _ => 0)), .inl (0, 36864, .inl (fun _ => 0)), .inl (0, 8, .inl (fun _ => 0)), .inl (0, 8, .inl (fun _ => 0)), .inl (1, 331776, .inr (.inl (fun _ => 0))), .inl (0, 8, .inl (fun _ => 0)), .inl (0, 8, .inl (fun _ => 0)), .inl (2, 72, .inl (fun _ => 0))]) F_X8_58 rfl (fun _ _ _ h => by cases h; rfl) dX8_init_129 rfl rfl rfl (ltb rfl) rfl ?_
  refine G_aload_n dX8_init_132 rfl rfl ?_
  refine G_bipush 8 dX8_init_133 (by decide) ?_
  refine G_newarr (t := 0) (a0 := (8, .inl (fun _ => 0))) (L := 17) (N := 8) dX8_init_135 rfl aw_0 rfl ra_int (fun _ => rfl) (by decide) (by decide) (lel (a' := 32) (b' := 536870912) rfl rfl rfl) (lel (a' := 17) (b' := 21) rfl rfl rfl) (lel (a' := 479500) (b' := 1528138) rfl rfl rfl) (roHi.nil rfl rfl) (leb rfl) rfl (fun δ => ?_)
  change GG _ _ _ _ _ _ 17 479500 _ [.inr (8, [.int 0, .int 0, .ref 1, .ref 2, .ref 3, .long 0, .long 0, .ref 4, .int 0, .ref 5, .ref 6, .ref 7, .ref 8, .ref 9, .ref 10, .int 0, .ref 11, .ref 12, .int 0, .ref 13, .ref 14, .ref 15, .ref 16, .null, .null, .long 0, .null, .null, .null]), .inl (0, 6, .inl (fun _ => 0)), .inl (0, 48, .inl (fun _ => 0)), .inl (0, 32, .inl (fun _ => 0)), .inl (0, 6, .inl (fun _ => 0)), .inl (1, 36864, .inr (.inl (fun _ => 0))), .inl (0, 8, .inl (fun _ => 0)), .inl (1, 56, .inr (.inl (fun _ => 0))), .inl (1, 36864, .inr (.inl (fun _ => 0))), .inl (0, 36864, .inl (fun _ => 0)), .inl (0, 36864, .inl (fun _ => 0)), .inl (0, 8, .inl (fun _ => 0)), .inl (0, 8, .inl (fun _ => 0)), .inl (1, 331776, .inr (.inl (fun _ => 0))), .inl (0, 8, .inl (fun _ => 0)), .inl (0, 8, .inl (fun _ => 0)), .inl (2, 72, .inl (fun _ => 0)), .inl (0, 8, .inl (fun _ => 0))] [some (.ref 0)] [.ref 17, .ref 0]
  refine G_putF (w2 := [.inr (8, [.int 0, .int 0, .ref 1, .ref 2, .ref 3, .long 0, .long 0, .ref 4, .int 0, .ref 5, .ref 6, .ref 7, .ref 8, .ref 9, .ref 10, .int 0, .ref 11, .ref 12, .int 0, .ref 13, .ref 14, .ref 15, .ref 16, .ref 17, .null, .long 0, .null, .null, .null]), .inl (0, 6, .inl (fun _ => 0)), .inl (0, 48, .inl (fun _ => 0)), .inl (0, 32, .inl (fun _ => 0)), .inl (0, 6, .inl (fun _ => 0)), .inl (1, 36864, .inr (.inl (fun _ => 0))), .inl (0, 8, .inl (fun _ => 0)), .inl (1, 56, .inr (.inl (fun _ => 0))), .inl (1, 36864, .inr (.inl (fun _ => 0))), .inl (0, 36864, .inl (fun _ => 0)), .inl (0, 36864, .inl (fun _ => 0)), .inl (0, 8, .inl (fun _ => 0)), .inl (0, 8, .inl (fun _ => 0)), .inl (1, 331776, .inr (.inl (fun _ => 0))), .inl (0, 8, .inl (fun _ => 0)), .inl (0, 8, .inl (fun _ => 0)), .inl (2, 72, .inl (fun _ => 0)), .inl (0, 8, .inl (fun _ => 0))]) F_X8_62 rfl (fun _ _ _ h => by cases h; rfl) dX8_init_137 rfl rfl rfl (ltb rfl) rfl ?_
  refine G_aload_n dX8_init_140 rfl rfl ?_
  refine G_ldc (v := 1048576) dX8_init_141 k_X8_65 ?_
  refine G_newarr (t := 0) (a0 := (1048576, .inl (fun _ => 0))) (L := 18) (N := 1048576) dX8_init_143 rfl aw_0 rfl ra_int (fun _ => rfl) (by decide) (by decide) (lel (a' := 4194304) (b' := 536870912) rfl rfl rfl) (lel (a' := 18) (b' := 21) rfl rfl rfl) (lel (a' := 1528076) (b' := 1528138) rfl rfl rfl) (roHi.nil rfl rfl) (leb rfl) rfl (fun δ => ?_)
  change GG _ _ _ _ _ _ 18 1528076 _ [.inr (8, [.int 0, .int 0, .ref 1, .ref 2, .ref 3, .long 0, .long 0, .ref 4, .int 0, .ref 5, .ref 6, .ref 7, .ref 8, .ref 9, .ref 10, .int 0, .ref 11, .ref 12, .int 0, .ref 13, .ref 14, .ref 15, .ref 16, .ref 17, .null, .long 0, .null, .null, .null]), .inl (0, 6, .inl (fun _ => 0)), .inl (0, 48, .inl (fun _ => 0)), .inl (0, 32, .inl (fun _ => 0)), .inl (0, 6, .inl (fun _ => 0)), .inl (1, 36864, .inr (.inl (fun _ => 0))), .inl (0, 8, .inl (fun _ => 0)), .inl (1, 56, .inr (.inl (fun _ => 0))), .inl (1, 36864, .inr (.inl (fun _ => 0))), .inl (0, 36864, .inl (fun _ => 0)), .inl (0, 36864, .inl (fun _ => 0)), .inl (0, 8, .inl (fun _ => 0)), .inl (0, 8, .inl (fun _ => 0)), .inl (1, 331776, .inr (.inl (fun _ => 0))), .inl (0, 8, .inl (fun _ => 0)), .inl (0, 8, .inl (fun _ => 0)), .inl (2, 72, .inl (fun _ => 0)), .inl (0, 8, .inl (fun _ => 0)), .inl (0, 1048576, .inl (fun _ => 0))] [some (.ref 0)] [.ref 18, .ref 0]
  refine G_putF (w2 := [.inr (8, [.int 0, .int 0, .ref 1, .ref 2, .ref 3, .long 0, .long 0, .ref 4, .int 0, .ref 5, .ref 6, .ref 7, .ref 8, .ref 9, .ref 10, .int 0, .ref 11, .ref 12, .int 0, .ref 13, .ref 14, .ref 15, .ref 16, .ref 17, .ref 18, .long 0, .null, .null, .null]), .inl (0, 6, .inl (fun _ => 0)), .inl (0, 48, .inl (fun _ => 0)), .inl (0, 32, .inl (fun _ => 0)), .inl (0, 6, .inl (fun _ => 0)), .inl (1, 36864, .inr (.inl (fun _ => 0))), .inl (0, 8, .inl (fun _ => 0)), .inl (1, 56, .inr (.inl (fun _ => 0))), .inl (1, 36864, .inr (.inl (fun _ => 0))), .inl (0, 36864, .inl (fun _ => 0)), .inl (0, 36864, .inl (fun _ => 0)), .inl (0, 8, .inl (fun _ => 0)), .inl (0, 8, .inl (fun _ => 0)), .inl (1, 331776, .inr (.inl (fun _ => 0))), .inl (0, 8, .inl (fun _ => 0)), .inl (0, 8, .inl (fun _ => 0)), .inl (2, 72, .inl (fun _ => 0)), .inl (0, 8, .inl (fun _ => 0)), .inl (0, 1048576, .inl (fun _ => 0))]) F_X8_66 rfl (fun _ _ _ h => by cases h; rfl) dX8_init_145 rfl rfl rfl (ltb rfl) rfl ?_
  refine G_aload_n dX8_init_148 rfl rfl ?_
  refine G_bipush 6 dX8_init_149 (by decide) ?_
  refine G_newarr (t := 1) (a0 := (6, .inr (.inl (fun _ => 0)))) (L := 19) (N := 6) dX8_init_151 rfl aw_1 rfl ra_long (fun _ => rfl) (by decide) (by decide) (lel (a' := 48) (b' := 536870912) rfl rfl rfl) (lel (a' := 19) (b' := 21) rfl rfl rfl) (lel (a' := 1528082) (b' := 1528138) rfl rfl rfl) (roHi.nil rfl rfl) (leb rfl) rfl (fun δ => ?_)
  change GG _ _ _ _ _ _ 19 1528082 _ [.inr (8, [.int 0, .int 0, .ref 1, .ref 2, .ref 3, .long 0, .long 0, .ref 4, .int 0, .ref 5, .ref 6, .ref 7, .ref 8, .ref 9, .ref 10, .int 0, .ref 11, .ref 12, .int 0, .ref 13, .ref 14, .ref 15, .ref 16, .ref 17, .ref 18, .long 0, .null, .null, .null]), .inl (0, 6, .inl (fun _ => 0)), .inl (0, 48, .inl (fun _ => 0)), .inl (0, 32, .inl (fun _ => 0)), .inl (0, 6, .inl (fun _ => 0)), .inl (1, 36864, .inr (.inl (fun _ => 0))), .inl (0, 8, .inl (fun _ => 0)), .inl (1, 56, .inr (.inl (fun _ => 0))), .inl (1, 36864, .inr (.inl (fun _ => 0))), .inl (0, 36864, .inl (fun _ => 0)), .inl (0, 36864, .inl (fun _ => 0)), .inl (0, 8, .inl (fun _ => 0)), .inl (0, 8, .inl (fun _ => 0)), .inl (1, 331776, .inr (.inl (fun _ => 0))), .inl (0, 8, .inl (fun _ => 0)), .inl (0, 8, .inl (fun _ => 0)), .inl (2, 72, .inl (fun _ => 0)), .inl (0, 8, .inl (fun _ => 0)), .inl (0, 1048576, .inl (fun _ => 0)), .inl (1, 6, .inr (.inl (fun _ => 0)))] [some (.ref 0)] [.ref 19, .ref 0]
  refine G_putF (w2 := [.inr (8, [.int 0, .int 0, .ref 1, .ref 2, .ref 3, .long 0, .long 0, .ref 4, .int 0, .ref 5, .ref 6, .ref 7, .ref 8, .ref 9, .ref 10, .int 0, .ref 11, .ref 12, .int 0, .ref 13, .ref 14, .ref 15, .ref 16, .ref 17, .ref 18, .long 0, .ref 19, .null, .null]), .inl (0, 6, .inl (fun _ => 0)), .inl (0, 48, .inl (fun _ => 0)), .inl (0, 32, .inl (fun _ => 0)), .inl (0, 6, .inl (fun _ => 0)), .inl (1, 36864, .inr (.inl (fun _ => 0))), .inl (0, 8, .inl (fun _ => 0)), .inl (1, 56, .inr (.inl (fun _ => 0))), .inl (1, 36864, .inr (.inl (fun _ => 0))), .inl (0, 36864, .inl (fun _ => 0)), .inl (0, 36864, .inl (fun _ => 0)), .inl (0, 8, .inl (fun _ => 0)), .inl (0, 8, .inl (fun _ => 0)), .inl (1, 331776, .inr (.inl (fun _ => 0))), .inl (0, 8, .inl (fun _ => 0)), .inl (0, 8, .inl (fun _ => 0)), .inl (2, 72, .inl (fun _ => 0)), .inl (0, 8, .inl (fun _ => 0)), .inl (0, 1048576, .inl (fun _ => 0)), .inl (1, 6, .inr (.inl (fun _ => 0)))]) F_X8_69 rfl (fun _ _ _ h => by cases h; rfl) dX8_init_153 rfl rfl rfl (ltb rfl) rfl ?_
  refine G_aload_n dX8_init_156 rfl rfl ?_
  refine G_bipush 48 dX8_init_157 (by decide) ?_
  refine G_newarr (t := 1) (a0 := (48, .inr (.inl (fun _ => 0)))) (L := 20) (N := 48) dX8_init_159 rfl aw_1 rfl ra_long (fun _ => rfl) (by decide) (by decide) (lel (a' := 384) (b' := 536870912) rfl rfl rfl) (lel (a' := 20) (b' := 21) rfl rfl rfl) (lel (a' := 1528130) (b' := 1528138) rfl rfl rfl) (roHi.nil rfl rfl) (leb rfl) rfl (fun δ => ?_)
  change GG _ _ _ _ _ _ 20 1528130 _ [.inr (8, [.int 0, .int 0, .ref 1, .ref 2, .ref 3, .long 0, .long 0, .ref 4, .int 0, .ref 5, .ref 6, .ref 7, .ref 8, .ref 9, .ref 10, .int 0, .ref 11, .ref 12, .int 0, .ref 13, .ref 14, .ref 15, .ref 16, .ref 17, .ref 18, .long 0, .ref 19, .null, .null]), .inl (0, 6, .inl (fun _ => 0)), .inl (0, 48, .inl (fun _ => 0)), .inl (0, 32, .inl (fun _ => 0)), .inl (0, 6, .inl (fun _ => 0)), .inl (1, 36864, .inr (.inl (fun _ => 0))), .inl (0, 8, .inl (fun _ => 0)), .inl (1, 56, .inr (.inl (fun _ => 0))), .inl (1, 36864, .inr (.inl (fun _ => 0))), .inl (0, 36864, .inl (fun _ => 0)), .inl (0, 36864, .inl (fun _ => 0)), .inl (0, 8, .inl (fun _ => 0)), .inl (0, 8, .inl (fun _ => 0)), .inl (1, 331776, .inr (.inl (fun _ => 0))), .inl (0, 8, .inl (fun _ => 0)), .inl (0, 8, .inl (fun _ => 0)), .inl (2, 72, .inl (fun _ => 0)), .inl (0, 8, .inl (fun _ => 0)), .inl (0, 1048576, .inl (fun _ => 0)), .inl (1, 6, .inr (.inl (fun _ => 0))), .inl (1, 48, .inr (.inl (fun _ => 0)))] [some (.ref 0)] [.ref 20, .ref 0]
  refine G_putF (w2 := [.inr (8, [.int 0, .int 0, .ref 1, .ref 2, .ref 3, .long 0, .long 0, .ref 4, .int 0, .ref 5, .ref 6, .ref 7, .ref 8, .ref 9, .ref 10, .int 0, .ref 11, .ref 12, .int 0, .ref 13, .ref 14, .ref 15, .ref 16, .ref 17, .ref 18, .long 0, .ref 19, .ref 20, .null]), .inl (0, 6, .inl (fun _ => 0)), .inl (0, 48, .inl (fun _ => 0)), .inl (0, 32, .inl (fun _ => 0)), .inl (0, 6, .inl (fun _ => 0)), .inl (1, 36864, .inr (.inl (fun _ => 0))), .inl (0, 8, .inl (fun _ => 0)), .inl (1, 56, .inr (.inl (fun _ => 0))), .inl (1, 36864, .inr (.inl (fun _ => 0))), .inl (0, 36864, .inl (fun _ => 0)), .inl (0, 36864, .inl (fun _ => 0)), .inl (0, 8, .inl (fun _ => 0)), .inl (0, 8, .inl (fun _ => 0)), .inl (1, 331776, .inr (.inl (fun _ => 0))), .inl (0, 8, .inl (fun _ => 0)), .inl (0, 8, .inl (fun _ => 0)), .inl (2, 72, .inl (fun _ => 0)), .inl (0, 8, .inl (fun _ => 0)), .inl (0, 1048576, .inl (fun _ => 0)), .inl (1, 6, .inr (.inl (fun _ => 0))), .inl (1, 48, .inr (.inl (fun _ => 0)))]) F_X8_72 rfl (fun _ _ _ h => by cases h; rfl) dX8_init_161 rfl rfl rfl (ltb rfl) rfl ?_
  refine G_aload_n dX8_init_164 rfl rfl ?_
  refine G_bipush 8 dX8_init_165 (by decide) ?_
  refine G_newarr (t := 0) (a0 := (8, .inl (fun _ => 0))) (L := 21) (N := 8) dX8_init_167 rfl aw_0 rfl ra_int (fun _ => rfl) (by decide) (by decide) (lel (a' := 32) (b' := 536870912) rfl rfl rfl) (lel (a' := 21) (b' := 21) rfl rfl rfl) (lel (a' := 1528138) (b' := 1528138) rfl rfl rfl) (roHi.nil rfl rfl) (leb rfl) rfl (fun δ => ?_)
  change GG _ _ _ _ _ _ 21 1528138 _ [.inr (8, [.int 0, .int 0, .ref 1, .ref 2, .ref 3, .long 0, .long 0, .ref 4, .int 0, .ref 5, .ref 6, .ref 7, .ref 8, .ref 9, .ref 10, .int 0, .ref 11, .ref 12, .int 0, .ref 13, .ref 14, .ref 15, .ref 16, .ref 17, .ref 18, .long 0, .ref 19, .ref 20, .null]), .inl (0, 6, .inl (fun _ => 0)), .inl (0, 48, .inl (fun _ => 0)), .inl (0, 32, .inl (fun _ => 0)), .inl (0, 6, .inl (fun _ => 0)), .inl (1, 36864, .inr (.inl (fun _ => 0))), .inl (0, 8, .inl (fun _ => 0)), .inl (1, 56, .inr (.inl (fun _ => 0))), .inl (1, 36864, .inr (.inl (fun _ => 0))), .inl (0, 36864, .inl (fun _ => 0)), .inl (0, 36864, .inl (fun _ => 0)), .inl (0, 8, .inl (fun _ => 0)), .inl (0, 8, .inl (fun _ => 0)), .inl (1, 331776, .inr (.inl (fun _ => 0))), .inl (0, 8, .inl (fun _ => 0)), .inl (0, 8, .inl (fun _ => 0)), .inl (2, 72, .inl (fun _ => 0)), .inl (0, 8, .inl (fun _ => 0)), .inl (0, 1048576, .inl (fun _ => 0)), .inl (1, 6, .inr (.inl (fun _ => 0))), .inl (1, 48, .inr (.inl (fun _ => 0))), .inl (0, 8, .inl (fun _ => 0))] [some (.ref 0)] [.ref 21, .ref 0]
  refine G_putF (w2 := [.inr (8, [.int 0, .int 0, .ref 1, .ref 2, .ref 3, .long 0, .long 0, .ref 4, .int 0, .ref 5, .ref 6, .ref 7, .ref 8, .ref 9, .ref 10, .int 0, .ref 11, .ref 12, .int 0, .ref 13, .ref 14, .ref 15, .ref 16, .ref 17, .ref 18, .long 0, .ref 19, .ref 20, .ref 21]), .inl (0, 6, .inl (fun _ => 0)), .inl (0, 48, .inl (fun _ => 0)), .inl (0, 32, .inl (fun _ => 0)), .inl (0, 6, .inl (fun _ => 0)), .inl (1, 36864, .inr (.inl (fun _ => 0))), .inl (0, 8, .inl (fun _ => 0)), .inl (1, 56, .inr (.inl (fun _ => 0))), .inl (1, 36864, .inr (.inl (fun _ => 0))), .inl (0, 36864, .inl (fun _ => 0)), .inl (0, 36864, .inl (fun _ => 0)), .inl (0, 8, .inl (fun _ => 0)), .inl (0, 8, .inl (fun _ => 0)), .inl (1, 331776, .inr (.inl (fun _ => 0))), .inl (0, 8, .inl (fun _ => 0)), .inl (0, 8, .inl (fun _ => 0)), .inl (2, 72, .inl (fun _ => 0)), .inl (0, 8, .inl (fun _ => 0)), .inl (0, 1048576, .inl (fun _ => 0)), .inl (1, 6, .inr (.inl (fun _ => 0))), .inl (1, 48, .inr (.inl (fun _ => 0))), .inl (0, 8, .inl (fun _ => 0))]) F_X8_75 rfl (fun _ _ _ h => by cases h; rfl) dX8_init_169 rfl rfl rfl (ltb rfl) rfl ?_
  refine G_aload_n dX8_init_172 rfl rfl ?_
  refine G_lconst 1 dX8_init_173 (by decide) ?_
  refine G_put (w2 := [.inr (8, [.int 0, .int 0, .ref 1, .ref 2, .ref 3, .long 0, .long 1, .ref 4, .int 0, .ref 5, .ref 6, .ref 7, .ref 8, .ref 9, .ref 10, .int 0, .ref 11, .ref 12, .int 0, .ref 13, .ref 14, .ref 15, .ref 16, .ref 17, .ref 18, .long 0, .ref 19, .ref 20, .ref 21]), .inl (0, 6, .inl (fun _ => 0)), .inl (0, 48, .inl (fun _ => 0)), .inl (0, 32, .inl (fun _ => 0)), .inl (0, 6, .inl (fun _ => 0)), .inl (1, 36864, .inr (.inl (fun _ => 0))), .inl (0, 8, .inl (fun _ => 0)), .inl (1, 56, .inr (.inl (fun _ => 0))), .inl (1, 36864, .inr (.inl (fun _ => 0))), .inl (0, 36864, .inl (fun _ => 0)), .inl (0, 36864, .inl (fun _ => 0)), .inl (0, 8, .inl (fun _ => 0)), .inl (0, 8, .inl (fun _ => 0)), .inl (1, 331776, .inr (.inl (fun _ => 0))), .inl (0, 8, .inl (fun _ => 0)), .inl (0, 8, .inl (fun _ => 0)), .inl (2, 72, .inl (fun _ => 0)), .inl (0, 8, .inl (fun _ => 0)), .inl (0, 1048576, .inl (fun _ => 0)), .inl (1, 6, .inr (.inl (fun _ => 0))), .inl (1, 48, .inr (.inl (fun _ => 0))), .inl (0, 8, .inl (fun _ => 0))]) F_X8_78 dX8_init_174 rfl rfl rfl (ltb rfl) rfl ?_
  exact G_returnA dX8_init_177 rfl (lel (a' := 21) (b' := 21) rfl rfl rfl) (lel (a' := 1528138) (b' := 1528138) rfl rfl rfl)
