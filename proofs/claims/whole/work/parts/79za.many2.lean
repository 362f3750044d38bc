/-! MANY3: the call of standingMany -/
section MANY3
variable {N K P : Nat} {S : Nat → Nat} {W T : Nat → Nat → Nat}
theorem call_standingMany (hG : GD K P S W T) (hN : 40000 ≤ N) {x : Int32} {c_full : Int32} {c_firsts : Int32} {c_freed : Int32} {c_cost : Nat → Int64} {c_firstWorth : Nat → Int32} {c_found : Nat → Int32} {c_least : Nat → Int64} {c_secondWorth : Nat → Int32} {c_stand : Nat → Int64} {c_weight : Nat → Int32} {c_aimed_askers : Int32} {c_aimed_places : Int32} {c_aimed_seatBits : Int32} {c_aimed_entries : Int32} {c_steadiness_most : Int32} {c_steadiness_tight : Int32} {c_steady_askers : Int32} {c_steady_places : Int32} {c_steady_seatBits : Int32} {c_steady_entries : Int32} {c_aimed_best : Nat → Int32} {c_aimed_clipAll : Nat → Int32} {c_aimed_clipToOne : Nat → Int32} {c_aimed_clipToTwo : Nat → Int32} {c_aimed_firstOf : Nat → Int32} {c_aimed_gains : Nat → Int32} {c_aimed_left : Nat → Int32} {c_aimed_next : Nat → Int32} {c_aimed_solvedGains : Nat → Int32} {c_aimed_ways : Nat → Int32} {c_all_slots : Nat → Int32} {c_steadiness_firsts : Nat → Int32} {c_steady_best : Nat → Int32} {c_steady_clipAll : Nat → Int32} {c_steady_clipToOne : Nat → Int32} {c_steady_clipToTwo : Nat → Int32} {c_steady_firstOf : Nat → Int32} {c_steady_gains : Nat → Int32} {c_steady_left : Nat → Int32} {c_steady_next : Nat → Int32} {c_steady_solvedGains : Nat → Int32} {c_steady_ways : Nat → Int32} (ha : SV c_aimed_askers c_aimed_places c_aimed_seatBits c_aimed_best c_aimed_next c_aimed_solvedGains c_aimed_ways) (hv : SV c_steady_askers c_steady_places c_steady_seatBits c_steady_best c_steady_next c_steady_solvedGains c_steady_ways) : ∀ {ca cp ma mp : Int32} {cs cl ct cw ms mw mt : Nat → Int32}, SB K P S W T ca cp cs cl ct cw → RepM K P S W T ma mp ms mw mt →
    ∃ r a1' a2' a3' a4' mo' ti' s1' s2' s3' s4' ab' ac' ad' ae' af' ag' ah' ai' aj' ak' sl' fi' sb' sc' sd' se' sf' sg' sh' si' sj' sk' full' mf' fr' cost' fw' fo' le' sw' st' we', f_X7_standingMany N ca cp cl cs cw c_aimed_askers c_aimed_places c_aimed_seatBits c_aimed_entries c_steadiness_most c_steadiness_tight c_steady_askers c_steady_places c_steady_seatBits c_steady_entries c_aimed_best c_aimed_clipAll c_aimed_clipToOne c_aimed_clipToTwo c_aimed_firstOf c_aimed_gains c_aimed_left c_aimed_next c_aimed_solvedGains c_aimed_ways c_all_slots c_steadiness_firsts c_steady_best c_steady_clipAll c_steady_clipToOne c_steady_clipToTwo c_steady_firstOf c_steady_gains c_steady_left c_steady_next c_steady_solvedGains c_steady_ways x = some (r, a1', a2', a3', a4', mo', ti', s1', s2', s3', s4', ab', ac', ad', ae', af', ag', ah', ai', aj', ak', sl', fi', sb', sc', sd', se', sf', sg', sh', si', sj', sk') ∧
      f_X8_standingMany N ma mp mw c_full c_firsts c_freed c_cost c_firstWorth c_found c_least ms c_secondWorth c_stand c_weight x = some (r, full', mf', fr', cost', fw', fo', le', ms, sw', st', we') ∧ SV a1' a2' a3' ab' ai' aj' ak' ∧ SV s1' s2' s3' sb' si' sj' sk' := by
  intro ca cp ma mp cs cl ct cw ms mw mt hB hM
  obtain ⟨⟨e1, e2, b3, b4, b5⟩, hl⟩ := hB
  obtain ⟨m1, m2, m3, m4, m5⟩ := hM
  have hP := hG.P6
  have hK := hG.K8
  subst e1; subst m1; subst e2; subst m2
  have t0 : (0 : Int32).toInt = 0 := by decide
  have t1' : (1 : Int32).toInt = 1 := by decide
  by_cases hx : x = 0 ∨ x = 1
  · obtain ⟨y, hy⟩ : ∃ y : Int, (x = 0 ∧ y = 1) ∨ (x = 1 ∧ y = -1) := by
      rcases hx with z | z
      · exact ⟨1, Or.inl ⟨z, rfl⟩⟩
      · exact ⟨-1, Or.inr ⟨z, rfl⟩⟩
    have hv1 : (x = 0 ∧ y = 1) ∨ (¬ x = 0 ∧ y = -1) := by
      rcases hy with z | z
      · exact Or.inl z
      · exact Or.inr ⟨by rw [z.1]; decide, z.2⟩
    obtain ⟨most, tight, ce', slots', firsts', best', clA', clO', clT', fo', g', left', next', sg', ways', s1, s2, s3, s4, s5, s6, s7⟩ := X7_standing_ok (N := N) (c_steadiness_most := c_steadiness_most) (c_steadiness_tight := c_steadiness_tight) (c_steady_entries := c_steady_entries) (c_all_slots := c_all_slots) (c_steadiness_firsts := c_steadiness_firsts) (c_steady_clipAll := c_steady_clipAll) (c_steady_clipToOne := c_steady_clipToOne) (c_steady_clipToTwo := c_steady_clipToTwo) (c_steady_firstOf := c_steady_firstOf) (c_steady_gains := c_steady_gains) (c_steady_left := c_steady_left) hN hG b3 b4 hl hv
    obtain ⟨freed', cost', fw', found', least', sw', stand', weight', t1, t2, t3, t4, t5, t6, t7⟩ := findStand_ok (N := N) (tight := tight) (most := most) (mw := mw) (ms := ms) (c_full := c_full) (c_firsts := c_firsts) (c_freed := c_freed) (c_cost := c_cost) (c_firstWorth := c_firstWorth) (c_found := c_found) (c_least := c_least) (c_secondWorth := c_secondWorth) (c_stand := c_stand) (c_weight := c_weight) hN hG m3 m4 s2
    have hW4 := wgt_le6 S (fun q _ => hG.S3 q) hP
    have hW0 := wgt_pos S P
    have hm := s2.2.1
    have hst : stand' ((9 * 0 + most) * 4096 + (wgt S P - 1)) = lN (sCt P (rf (sRow W P tight 1 0) 0 K) S most) := by
      rw [t7 0 (Nat.zero_le _) most (wgt S P - 1) (by omega) (by omega), sCt_stN s2, Nat.sub_zero]
      rw [stN_cong K 0 most (dig S (wgt S P - 1)) S (fun q hq => dig_full S hq)]
    have hv' := SV_of hK hP hG.S3 s5 s6 s7
    have hc31 : sCt P (rf (sRow W P tight 1 0) 0 K) S most ≤ 7 ^ 8 := by
      rw [sCt_stN s2]
      exact Nat.le_trans (stN_le _ _ _ _) (Nat.le_trans (Nat.pow_le_pow_left (show P + 1 ≤ 7 by omega) _) (Nat.pow_le_pow_right (by decide) hK))
    have h7 : f_X7_standingMany N (nI K) (nI P) cl cs cw c_aimed_askers c_aimed_places c_aimed_seatBits c_aimed_entries c_steadiness_most c_steadiness_tight c_steady_askers c_steady_places c_steady_seatBits c_steady_entries c_aimed_best c_aimed_clipAll c_aimed_clipToOne c_aimed_clipToTwo c_aimed_firstOf c_aimed_gains c_aimed_left c_aimed_next c_aimed_solvedGains c_aimed_ways c_all_slots c_steadiness_firsts c_steady_best c_steady_clipAll c_steady_clipToOne c_steady_clipToTwo c_steady_firstOf c_steady_gains c_steady_left c_steady_next c_steady_solvedGains c_steady_ways x = f_X7_standingMany_12 N (nI K) (nI P) cl cs cw c_aimed_askers c_aimed_places c_aimed_seatBits c_aimed_entries c_steadiness_most c_steadiness_tight c_steady_askers c_steady_places c_steady_seatBits c_steady_entries c_aimed_best c_aimed_clipAll c_aimed_clipToOne c_aimed_clipToTwo c_aimed_firstOf c_aimed_gains c_aimed_left c_aimed_next c_aimed_solvedGains c_aimed_ways c_all_slots c_steadiness_firsts c_steady_best c_steady_clipAll c_steady_clipToOne c_steady_clipToTwo c_steady_firstOf c_steady_gains c_steady_left c_steady_next c_steady_solvedGains c_steady_ways x := by
      unfold f_X7_standingMany
      rcases hx with z | z
      · rw [if_pos z]
      · rw [if_neg (by rw [z]; decide), if_pos z]
    have hin : f_X8_in N x 0 1 = some 1 := by
      rw [X8_in_ok, t0, t1', if_pos]
      rcases hx with z | z <;> subst z <;> decide
    rw [h7]
    unfold f_X7_standingMany_12 f_X8_standingMany
    rw [hin, bd, if_neg one_ne, s1, bd, t1, bd]
    simp only
    rw [show (0 : Int32) = nI 0 from rfl, standAt_ok, bd, rdL_n _ (by omega) (by decide), bd, hst]
    by_cases h0 : sCt P (rf (sRow W P tight 1 0) 0 K) S most = 0
    · rw [h0, if_pos (show lN 0 = 0 from rfl), if_pos (show lN 0 = 0 from rfl)]
      exact ⟨_, _, _, _, _, _, _, _, _, _, _, _, _, _, _, _, _, _, _, _, _, _, _, _, _, _, _, _, _, _, _, _, _, _, _, _, _, _, _, _, _, _, _, rfl, rfl, ha, hv'⟩
    · have hne : ¬ lN (sCt P (rf (sRow W P tight 1 0) 0 K) S most) = 0 := fun z => h0 ((fb_lN_inj (b := 0) (by omega) (by decide)).mp z)
      rw [if_neg hne, if_neg hne]
      have hsx : smallZ (100 + y) := by rcases hy with z | z <;> (rw [z.2]; exact ⟨by decide, by decide⟩)
      have hsy : smallZ y := by rcases hy with z | z <;> (rw [z.2]; exact ⟨by decide, by decide⟩)
      obtain ⟨ga, g1, g2⟩ := fg_3 (N := N) (x := zI 100) (y := zI y) hN hG b4 s2.2.2.2.1 s3 N 0 c_aimed_gains (Nat.zero_le _) (by omega) Fil_0
      obtain ⟨r1, r2⟩ := vStd_rows hsx hsy g2
      obtain ⟨ce2, best2, clA2, clO2, clT2, fo2, left2, next2, slots2, sg2, ways2, q1, q2, q3⟩ := solve_ok (N := N) hN hK hP hG.S3 (fun q hq => hG.S0 hq) b3 r2 ha c_aimed_entries c_aimed_clipAll c_aimed_clipToOne c_aimed_clipToTwo c_aimed_firstOf c_aimed_left slots'
      obtain ⟨B, M, hb⟩ : ∃ B M, bw P (rf (sRow W P tight 100 y) 0 K) S = some (B, M) := by
        cases hb : bw P (rf (sRow W P tight 100 y) 0 K) S with
        | some q => exact ⟨q.1, q.2, rfl⟩
        | none =>
          exfalso
          apply h0
          have := bw_both K 0 S hb
          unfold sCt
          rw [this]
      obtain ⟨u1, u2, u3⟩ := rows_b31 hK hP r1 r2 hb
      have hB := bw_bound hP r2 K 0 S B M (by omega) u1
      obtain ⟨full2, cost2, found2, least2, weight2, k1⟩ := sm_43 (N := N) (mw := mw) (ms := ms) (weight := weight') (fw := fw') (sw := sw') (stand := stand') (freed := freed') (tight := tight) (c_full := nI (wgt S P - 1)) (c_found := found') (c_least := least') hN hG m4 t2 t3 t4 t5 m3 hv1 (show most ≤ 8 by omega) hb u2 ⟨by omega, by omega⟩ N 0 cost' (Nat.zero_le _) (by omega) FilL_0
      have fin : ∀ s2' s3' : Int32, s2' = zI 100 → s3' = zI y → ∃ tail, f_X7_standingMany_42 N (nI K) (nI P) cl cs cw c_aimed_askers c_aimed_places c_aimed_seatBits c_aimed_entries (nI most) (nI tight) (nI K) (nI P) (nI (e4 S P)) ce' c_aimed_best c_aimed_clipAll c_aimed_clipToOne c_aimed_clipToTwo c_aimed_firstOf c_aimed_gains c_aimed_left c_aimed_next c_aimed_solvedGains c_aimed_ways slots' firsts' best' clA' clO' clT' fo' g' left' next' sg' ways' x s2' s3' = some (if x = 0 then zI (B - 100 * most) else zI (-(B - 100 * most)), nI K, nI P, nI (e4 S P), ce2, nI most, nI tight, nI K, nI P, nI (e4 S P), ce', best2, clA2, clO2, clT2, fo2, ga, left2, next2, sg2, ways2, slots2, firsts', best', clA', clO', clT', fo', g', left', next', sg', ways') ∧ tail = true := by
        intro s2' s3' z2 z3
        unfold f_X7_standingMany_42
        have g1' : f_X5_fillGains N (nI tight) (nI K) (nI P) firsts' cw c_aimed_gains s2' s3' = some ga := by rw [z2, z3]; exact g1
        rw [g1', bd, q1, bd]
        simp only
        rw [bestGain_ok q3 u1, bd, show (100 : Int32) = zI 100 from rfl, ← zI_nat, zI_mul, zI_sub, zI_neg]
        by_cases hx0 : x = 0
        · rw [if_pos hx0, if_pos hx0]; exact ⟨true, rfl, rfl⟩
        · rw [if_neg hx0, if_neg hx0]; exact ⟨true, rfl, rfl⟩
      have hsv2 := SV_of hK hP hG.S3 r2 q2 q3
      rcases hy with ⟨z1, z2⟩ | ⟨z1, z2⟩
      · obtain ⟨-, f1, -⟩ := fin 100 1 rfl (by rw [z2]; rfl)
        rw [if_pos (show x = nI 0 from z1), f1]
        exact ⟨_, _, _, _, _, _, _, _, _, _, _, _, _, _, _, _, _, _, _, _, _, _, _, _, _, _, _, _, _, _, _, _, _, _, _, _, _, _, _, _, _, _, _, rfl, k1, hsv2, hv'⟩
      · obtain ⟨-, f1, -⟩ := fin 100 (-1) rfl (by rw [z2]; decide)
        rw [if_neg (show ¬ x = nI 0 by rw [z1]; decide), f1]
        exact ⟨_, _, _, _, _, _, _, _, _, _, _, _, _, _, _, _, _, _, _, _, _, _, _, _, _, _, _, _, _, _, _, _, _, _, _, _, _, _, _, _, _, _, _, rfl, k1, hsv2, hv'⟩
  · have hin : f_X8_in N x 0 1 = some 0 := by
      rw [X8_in_ok, t0, t1', if_neg]
      rintro ⟨z1, z2⟩
      obtain ⟨v, hv2, rfl⟩ := small_ex (x := x) (n := 1) z1 z2
      apply hx
      have : v = 0 ∨ v = 1 := by omega
      rcases this with z | z
      · exact Or.inl (by rw [z]; rfl)
      · exact Or.inr (by rw [z]; rfl)
    unfold f_X7_standingMany f_X8_standingMany
    rw [hin, bd, if_pos rfl, if_neg (fun z => hx (Or.inl z)), if_neg (fun z => hx (Or.inr z))]
    exact ⟨_, _, _, _, _, _, _, _, _, _, _, _, _, _, _, _, _, _, _, _, _, _, _, _, _, _, _, _, _, _, _, _, _, _, _, _, _, _, _, _, _, _, _, rfl, rfl, ha, hv⟩
end MANY3
