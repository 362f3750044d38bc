/-! AT: standingAt -/
section AT
variable {N K P : Nat} {S : Nat → Nat} {W T : Nat → Nat → Nat} {mw ms weight fw sw : Nat → Int32} {freed tight : Nat} {stand : Nat → Int64}
theorem sa_65 (hN : 40000 ≤ N) (hG : GD K P S W T) (hs : ∀ q, q < 6 → ms q = nI (S q)) (hw : ∀ a q, a < 8 → q < 6 → mw (a * 6 + q) = nI (W a q)) (hwt : ∀ j, j < P → weight j = nI (wgt S j)) (hfr : freed < 64) (hft : ∀ q, q < P → (bt freed q = 1 ↔ bt tight q ≠ 1)) (hfw : ∀ b, b < K → fw b = nI (fwR W b P)) (hsw : ∀ b, b < K → sw b = nI (swR W tight b P)) (hTT : ∀ b, b ≤ K → TT K P S W tight stand b) {x : Nat} (hx : x < K) {c_firsts : Int32} {c_cost : (Nat → Int64)} {c_found : (Nat → Int32)} {c_least : (Nat → Int64)} :
    ∀ (m n a f s i last M : Nat), x + 1 = a + m → m < n → f ≤ 8 → s < wgt S P → bw P (rf (sRow W P tight 1 0) a (K - a)) (dig S s) = some ((f : Int), M) → i < M →
      f_X8_standingAt_65 N (nI K) (nI P) mw n (nI (wgt S P - 1)) c_firsts (nI freed) c_cost fw c_found c_least ms sw stand weight (nI x) (lN i) (nI s) (nI f) (nI last) (nI a) = some (nI (if m = 0 then last else (nth P (rf (sRow W P tight 1 0) a (K - a)) (dig S s) i).getD (m - 1) 0) - 1, nI (wgt S P - 1), c_firsts, nI freed, c_cost, fw, c_found, c_least, ms, sw, stand, weight) := by
  have hK := hG.K8
  have hP := hG.P6
  have hW4 := wgt_le6 S (fun q _ => hG.S3 q) hP
  intro m
  induction m with
  | zero =>
    intro n a f s i last M hk hn hf8 hsl hb hi
    obtain ⟨n, rfl⟩ : ∃ n', n = n' + 1 := ⟨n - 1, by omega⟩
    rw [f_X8_standingAt_65, if_pos (nI_lt (by omega) (by omega)), if_pos rfl]
  | succ m ih =>
    intro n a f s i last M hk hn hf8 hsl hb hi
    obtain ⟨n, rfl⟩ : ∃ n', n = n' + 1 := ⟨n - 1, by omega⟩
    have ha : a < K := by omega
    rw [f_X8_standingAt_65, if_neg (nI_nlt (by omega) (by omega))]
    rw [show K - a = K - (a + 1) + 1 by omega] at hb ⊢
    have hM : M = fb_sm (stT W P tight (K - (a + 1)) a f (dig S s)) (P + 1) := by
      have h0 := hb
      rw [rf, bw_cons] at h0
      obtain ⟨-, -, h3⟩ := fo_some h0
      rw [h3]
      exact fb_sm_cong (fun o ho => wt_st hb ho)
    have hMle : M ≤ 7 ^ 8 := by
      rw [hM, ← stN_succ]
      refine Nat.le_trans (stN_le _ _ _ _) (Nat.le_trans (Nat.pow_le_pow_left (show P + 1 ≤ 7 by omega) _) (Nat.pow_le_pow_right (by decide) (by omega)))
    obtain ⟨-, s2, s3, -⟩ := sl_spec (stT W P tight (K - (a + 1)) a f (dig S s)) P 0 i (by rw [show 0 + P + 1 = P + 1 from by omega, ← hM]; show 0 + i < M; omega)
    obtain ⟨t, f', t1, t2, t3, t4, t5, t6⟩ := sa_74 (N := N) (c_firsts := c_firsts) (c_cost := c_cost) (c_found := c_found) (c_least := c_least) (v3 := nI x) hN hG hs hw hwt hfr hft hfw hsw hTT ha hf8 hsl (f_X8_standingAt_65 N (nI K) (nI P) mw n) N 0 i (Nat.zero_le _) (by omega) (by omega) (by rw [Nat.sub_zero]; exact s3)
    rw [Nat.sub_zero] at t1 t2 t4 t5 t6
    rw [show (0 : Int32) = nI 0 from rfl, t6]
    have hnth : nth P (rf (sRow W P tight 1 0) a (K - (a + 1) + 1)) (dig S s) i = (sl (stT W P tight (K - (a + 1)) a f (dig S s)) P 0 i).1 :: nth P (rf (sRow W P tight 1 0) (a + 1) (K - (a + 1))) (dig S t) (sl (stT W P tight (K - (a + 1)) a f (dig S s)) P 0 i).2 := by
      have h0 := hb
      rw [rf] at h0
      have hsl2 : sl (wt (cv P (sRow W P tight 1 0 a) (rf (sRow W P tight 1 0) (a + 1) (K - (a + 1))) (dig S s)) (f : Int)) P 0 i = sl (stT W P tight (K - (a + 1)) a f (dig S s)) P 0 i := sl_cong P 0 i (fun j _ hj => wt_st hb (by omega))
      rw [rf, nth, h0]
      simp only
      rw [hsl2, t2]
    rw [hnth]
    have hwt2 := wt_st hb (show (sl (stT W P tight (K - (a + 1)) a f (dig S s)) P 0 i).1 < P + 1 by omega)
    generalize sl (stT W P tight (K - (a + 1)) a f (dig S s)) P 0 i = z at *
    obtain ⟨o, i'⟩ := z
    simp only at *
    have hb2 : bw P (rf (sRow W P tight 1 0) (a + 1) (K - (a + 1))) (dig S t) = some ((f' : Int), stT W P tight (K - (a + 1)) a f (dig S s) o) := by
      unfold wt at hwt2
      cases hc : cv P (sRow W P tight 1 0 a) (rf (sRow W P tight 1 0) (a + 1) (K - (a + 1))) (dig S s) o with
      | none =>
        rw [hc] at hwt2
        simp only at hwt2
        omega
      | some c =>
        rw [hc] at hwt2
        simp only at hwt2
        obtain ⟨γ, σ', b, c1, c2, c3, c4⟩ := cv_some hc
        rw [t2] at c2
        cases c2
        by_cases e : c.1 = (f : Int)
        · rw [if_pos e] at hwt2
          rw [c3, ← hwt2]
          have : b = (f' : Int) := by
            rcases sRow_01 c1 with ⟨g1, g2⟩ | ⟨g1, g2⟩
            · rw [if_pos g2] at t5; omega
            · rw [if_neg (by rw [g2]; decide)] at t5; omega
          rw [this]
        · rw [if_neg e] at hwt2; omega
    have := ih n (a + 1) f' t i' o _ (by omega) (by omega) (by omega) (by have := tkS_le t1; omega) hb2 s3
    rw [this]
    cases m with
    | zero => rfl
    | succ m => rfl
theorem call_standingAt (hG : GD K P S W T) (hN : 40000 ≤ N) {x : Int64} {y : Int32} {c_full : Int32} {c_firsts : Int32} {c_freed : Int32} {c_cost : Nat → Int64} {c_firstWorth : Nat → Int32} {c_found : Nat → Int32} {c_least : Nat → Int64} {c_secondWorth : Nat → Int32} {c_stand : Nat → Int64} {c_weight : Nat → Int32} {c_row : Nat → Int32} {c_steadiness_most : Int32} {c_steadiness_tight : Int32} {c_steady_askers : Int32} {c_steady_places : Int32} {c_steady_seatBits : Int32} {c_steady_entries : Int32} {c_all_slots : Nat → Int32} {c_steadiness_firsts : Nat → Int32} {c_steady_best : Nat → Int32} {c_steady_clipAll : Nat → Int32} {c_steady_clipToOne : Nat → Int32} {c_steady_clipToTwo : Nat → Int32} {c_steady_firstOf : Nat → Int32} {c_steady_gains : Nat → Int32} {c_steady_left : Nat → Int32} {c_steady_next : Nat → Int32} {c_steady_solvedGains : Nat → Int32} {c_steady_ways : Nat → Int32} (hv : SV c_steady_askers c_steady_places c_steady_seatBits c_steady_best c_steady_next c_steady_solvedGains c_steady_ways) : ∀ {ca cp ma mp : Int32} {cs cl ct cw ms mw mt : Nat → Int32}, SB K P S W T ca cp cs cl ct cw → RepM K P S W T ma mp ms mw mt →
    ∃ r row' most' tight' ca' cp' sb' ce' slots' firsts' best' clA' clO' clT' fo' g' left' next' sg' ways' full' mf' freed' cost' fw' found' least' sw' stand' weight', f_X7_standingAt N ca cp cl cs cw c_row c_steadiness_most c_steadiness_tight c_steady_askers c_steady_places c_steady_seatBits c_steady_entries c_all_slots c_steadiness_firsts c_steady_best c_steady_clipAll c_steady_clipToOne c_steady_clipToTwo c_steady_firstOf c_steady_gains c_steady_left c_steady_next c_steady_solvedGains c_steady_ways x y = some (r, row', most', tight', ca', cp', sb', ce', slots', firsts', best', clA', clO', clT', fo', g', left', next', sg', ways') ∧
      f_X8_standingAt N ma mp mw c_full c_firsts c_freed c_cost c_firstWorth c_found c_least ms c_secondWorth c_stand c_weight x y = some (r, full', mf', freed', cost', fw', found', least', ms, sw', stand', weight') ∧ SV ca' cp' sb' best' next' sg' ways' := by
  intro ca cp ma mp cs cl ct cw ms mw mt hB hM
  obtain ⟨⟨e1, e2, b3, b4, b5⟩, hl⟩ := hB
  obtain ⟨m1, m2, m3, m4, m5⟩ := hM
  have hP := hG.P6
  have hK := hG.K8
  subst e1; subst m1; subst e2; subst m2
  obtain ⟨most, tight, ce', slots', firsts', best', clA', clO', clT', fo', g', left', next', sg', ways', s1, s2, s3, s4, s5, s6, s7⟩ := X7_standing_ok (N := N) (c_steadiness_most := c_steadiness_most) (c_steadiness_tight := c_steadiness_tight) (c_steady_entries := c_steady_entries) (c_all_slots := c_all_slots) (c_steadiness_firsts := c_steadiness_firsts) (c_steady_clipAll := c_steady_clipAll) (c_steady_clipToOne := c_steady_clipToOne) (c_steady_clipToTwo := c_steady_clipToTwo) (c_steady_firstOf := c_steady_firstOf) (c_steady_gains := c_steady_gains) (c_steady_left := c_steady_left) hN hG b3 b4 hl hv
  obtain ⟨freed', cost', fw', found', least', sw', stand', weight', t1, t2, t3, t4, t5, t6, t7⟩ := findStand_ok (N := N) (tight := tight) (most := most) (mw := mw) (ms := ms) (c_full := c_full) (c_firsts := c_firsts) (c_freed := c_freed) (c_cost := c_cost) (c_firstWorth := c_firstWorth) (c_found := c_found) (c_least := c_least) (c_secondWorth := c_secondWorth) (c_stand := c_stand) (c_weight := c_weight) hN hG m3 m4 s2
  have hW4 := wgt_le6 S (fun q _ => hG.S3 q) hP
  have hW0 := wgt_pos S P
  have hm := s2.2.1
  have hst : stand' ((9 * 0 + most) * 4096 + (wgt S P - 1)) = lN (sCt P (rf (sRow W P tight 1 0) 0 K) S most) := by
    rw [t7 0 (Nat.zero_le _) most (wgt S P - 1) (by omega) (by omega), sCt_stN s2, Nat.sub_zero]
    rw [stN_cong K 0 most (dig S (wgt S P - 1)) S (fun q hq => dig_full S hq)]
  have hv' := SV_of hK hP hG.S3 s5 s6 s7
  unfold f_X7_standingAt f_X8_standingAt
  rw [t1, bd]
  simp only
  rw [X0_isAsker_ok hK, X8_isAsker_ok hK, bd, bd]
  by_cases hy : isM K y
  · rw [if_pos hy, if_neg one_ne, if_neg one_ne]
    by_cases h0 : x < 0
    · rw [if_pos h0, if_pos h0]
      exact ⟨_, _, _, _, _, _, _, _, _, _, _, _, _, _, _, _, _, _, _, _, _, _, _, _, _, _, _, _, _, _, rfl, rfl, hv⟩
    · rw [if_neg h0, if_neg h0, s1, bd, show (0 : Int32) = nI 0 from rfl, standAt_ok, bd, rdL_n _ (by omega) (by decide), bd, hst]
      simp only
      by_cases hlt : x < lN (sCt P (rf (sRow W P tight 1 0) 0 K) S most)
      · rw [if_pos hlt, if_pos hlt]
        obtain ⟨a, ha, rfl⟩ := isM_ex hy
        have hc31 : sCt P (rf (sRow W P tight 1 0) 0 K) S most ≤ 7 ^ 8 := by
          rw [sCt_stN s2]
          exact Nat.le_trans (stN_le _ _ _ _) (Nat.le_trans (Nat.pow_le_pow_left (show P + 1 ≤ 7 by omega) _) (Nat.pow_le_pow_right (by decide) hK))
        obtain ⟨i, hi, hxi⟩ : ∃ i, i < sCt P (rf (sRow W P tight 1 0) 0 K) S most ∧ x = lN i := by
          rw [Int64.lt_iff_toInt_lt, lN_toInt (by omega)] at hlt
          rw [Int64.lt_iff_toInt_lt] at h0
          have h00 : (0 : Int64).toInt = 0 := by decide
          rw [h00] at h0
          refine ⟨x.toInt.toNat, by omega, ?_⟩
          rw [← Int64.toInt_inj, lN_toInt (by omega)]
          omega
        subst hxi
        obtain ⟨M, hb, hiM⟩ : ∃ M, bw P (rf (sRow W P tight 1 0) 0 K) S = some ((most : Int), M) ∧ i < M := by
          unfold sCt at hi
          cases hb : bw P (rf (sRow W P tight 1 0) 0 K) S with
          | none => rw [hb] at hi; exact absurd hi (Nat.not_lt_zero _)
          | some q =>
            rw [hb] at hi
            simp only at hi
            by_cases e : q.1 = (most : Int)
            · rw [if_pos e] at hi
              exact ⟨q.2, by rw [← e], hi⟩
            · rw [if_neg e] at hi; exact absurd hi (Nat.not_lt_zero _)
        have hb1 : bw P (gF K g' 0) S = some ((most : Int), M) := (gF_rows s4 S (Nat.zero_le _)).trans hb
        obtain ⟨row', p1, p2⟩ := pathTo_ok (N := N) hN hK hP s5 s6 s7 hb1 hiM c_row
        have hbd : bw P (rf (sRow W P tight 1 0) 0 (K - 0)) (dig S (wgt S P - 1)) = some ((most : Int), M) := by
          rw [← hb]
          exact bw_cong2 P _ _ _ _ _ _ (fun _ _ _ _ _ => rfl) (fun q hq => dig_full S hq)
        have hsa := sa_65 (N := N) (c_firsts := nI most) (c_cost := cost') (c_found := found') (c_least := least') hN hG m3 m4 t6 t2 t3 t4 t5 t7 ha (a + 1) N 0 most (wgt S P - 1) i 0 M (by omega) (by omega) (by omega) (by omega) hbd hiM
        have e : nth P (rf (sRow W P tight 1 0) 0 (K - 0)) (dig S (wgt S P - 1)) i = nth P (rf (sRow W P tight 1 0) 0 K) S i := nth_cong P _ _ _ _ _ _ _ (fun _ _ _ _ _ => rfl) (fun q hq => dig_full S hq)
        rw [if_neg (Nat.succ_ne_zero a), e, Nat.add_sub_cancel] at hsa
        rw [lN_i, p1, bd, rdI_n _ (by omega) (by decide), bd, p2 a ha, nthT_rows s4, hsa]
        exact ⟨_, _, _, _, _, _, _, _, _, _, _, _, _, _, _, _, _, _, _, _, _, _, _, _, _, _, _, _, _, _, rfl, rfl, hv'⟩
      · rw [if_neg hlt, if_neg hlt]
        exact ⟨_, _, _, _, _, _, _, _, _, _, _, _, _, _, _, _, _, _, _, _, _, _, _, _, _, _, _, _, _, _, rfl, rfl, hv'⟩
  · rw [if_neg hy, if_pos rfl, if_pos rfl]
    exact ⟨_, _, _, _, _, _, _, _, _, _, _, _, _, _, _, _, _, _, _, _, _, _, _, _, _, _, _, _, _, _, rfl, rfl, hv⟩
end AT
