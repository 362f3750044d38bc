/-! margin, beater, better: both sides -/
section VOTES2
variable {N K P : Nat} {S : Nat → Nat} {W T : Nat → Nat → Nat}
theorem rows_b31 (hK : K ≤ 8) (hP : P ≤ 6) {g : Nat → Int32} {r : Nat → Row} (hr : RowsAre K P g r) (hg : GB K P g) {σ : Sv} {B : Int} {M : Nat} (hb : bw P (rf r 0 K) σ = some (B, M)) : bw P (gF K g 0) σ = some (B, M) ∧ b31 B ∧ 0 < M := by
  have h1 : bw P (gF K g 0) σ = some (B, M) := (gF_rows hr σ (Nat.zero_le _)).trans hb
  have h2 := bw_bound hP hg K 0 σ B M (by omega) h1
  exact ⟨h1, ⟨by omega, by omega⟩, bw_pos P _ _ _ _ h1⟩
theorem small1 : smallZ 1 := ⟨by decide, by decide⟩
theorem small_nb {nb : Bool} : ∀ z, (if nb then none else some (-1) : Option Int) = some z → smallZ z := by
  intro z h
  cases nb with
  | true => cases h
  | false => cases h; exact ⟨by decide, by decide⟩
theorem fI_nb (nb : Bool) : fI (if nb then none else some (-1)) = if nb then RUL else -1 := by cases nb <;> decide

theorem call_margin (hG : GD K P S W T) (hN : 40000 ≤ N) {x : Int32} {c_full : Int32} {c_cost : Nat → Int64} {c_found : Nat → Int32} {c_least : Nat → Int64} {c_weight : Nat → Int32} {c_aimed_askers : Int32} {c_aimed_places : Int32} {c_aimed_seatBits : Int32} {c_aimed_entries : Int32} {c_aimed_best : Nat → Int32} {c_aimed_clipAll : Nat → Int32} {c_aimed_clipToOne : Nat → Int32} {c_aimed_clipToTwo : Nat → Int32} {c_aimed_firstOf : Nat → Int32} {c_aimed_gains : Nat → Int32} {c_aimed_left : Nat → Int32} {c_aimed_next : Nat → Int32} {c_aimed_solvedGains : Nat → Int32} {c_aimed_ways : Nat → Int32} {c_all_slots : Nat → Int32} (hv : SV c_aimed_askers c_aimed_places c_aimed_seatBits c_aimed_best c_aimed_next c_aimed_solvedGains c_aimed_ways) : ∀ {ca cp ma mp : Int32} {cs cl ct cw ms mw mt : Nat → Int32}, SB K P S W T ca cp cs cl ct cw → RepM K P S W T ma mp ms mw mt →
    ∃ r ca' cp' sb' ce' best' clA' clO' clT' fo' g' left' next' sg' ways' slots' full' cost' found' least' weight', f_X7_margin N ca cp cs ct cw c_aimed_askers c_aimed_places c_aimed_seatBits c_aimed_entries c_aimed_best c_aimed_clipAll c_aimed_clipToOne c_aimed_clipToTwo c_aimed_firstOf c_aimed_gains c_aimed_left c_aimed_next c_aimed_solvedGains c_aimed_ways c_all_slots x = some (r, ca', cp', sb', ce', best', clA', clO', clT', fo', g', left', next', sg', ways', slots') ∧
      f_X8_margin N ma mp ms mt mw c_full c_cost c_found c_least c_weight x = some (r, full', cost', found', least', weight') ∧ SV ca' cp' sb' best' next' sg' ways' := by
  intro ca cp ma mp cs cl ct cw ms mw mt hB hM
  obtain ⟨⟨e1, e2, b3, b4, b5⟩, hl⟩ := hB
  obtain ⟨m1, m2, m3, m4, m5⟩ := hM
  have hP := hG.P6
  have hK := hG.K8
  subst e1; subst m1; subst e2; subst m2
  unfold f_X7_margin f_X8_margin
  rw [X7_isTold_ok, X8_isTold_ok, bd, bd]
  by_cases hx : isM 4 x
  · rw [if_pos hx, if_neg one_ne, if_neg one_ne]
    obtain ⟨g, hg, rfl⟩ := isM_ex hx
    obtain ⟨ce', best', clA', clO', clT', fo', g', left', next', sg', ways', slots', s1, s2, s3, s4, s5⟩ := X7_solveVotes_ok (rz := 1) (fz := if false then none else some (-1)) hN hG b3 b4 b5 hg small1 small_nb (c_aimed_entries := c_aimed_entries) (c_aimed_clipAll := c_aimed_clipAll) (c_aimed_clipToOne := c_aimed_clipToOne) (c_aimed_clipToTwo := c_aimed_clipToTwo) (c_aimed_firstOf := c_aimed_firstOf) (c_aimed_gains := c_aimed_gains) (c_aimed_left := c_aimed_left) (c_all_slots := c_all_slots) hv
    obtain ⟨B, M, v1, v2⟩ := votes_some (g := g) (rz := 1) (fz := if false then none else some (-1)) hG
    obtain ⟨u1, u2, u3⟩ := rows_b31 hK hP s2 s3 v1
    obtain ⟨full', cost', found', least', weight', f1, f2⟩ := X8_findBeater_ok (nb := false) hN hG m3 m4 m5 hg v1 u2 (c_full := c_full) (c_cost := c_cost) (c_found := c_found) (c_least := c_least) (c_weight := c_weight)
    rw [show zI 1 = 1 from rfl, fI_nb] at s1
    have s1' : f_X7_solveVotes N (nI K) (nI P) cs ct cw c_aimed_askers c_aimed_places c_aimed_seatBits c_aimed_entries c_aimed_best c_aimed_clipAll c_aimed_clipToOne c_aimed_clipToTwo c_aimed_firstOf c_aimed_gains c_aimed_left c_aimed_next c_aimed_solvedGains c_aimed_ways c_all_slots (nI g) 1 (-1 : Int32) = _ := s1
    have f1' : f_X8_findBeater N (nI K) (nI P) ms mt mw c_full c_cost c_found c_least c_weight (nI g) 0 = _ := f1
    rw [s1', bd, f1', bd]
    simp only
    rw [bestGain_ok s5 u1, bd]
    exact ⟨_, _, _, _, _, _, _, _, _, _, _, _, _, _, _, _, _, _, _, _, _, rfl, rfl, SV_of hK hP hG.S3 s3 s4 s5⟩
  · rw [if_neg hx, if_pos rfl, if_pos rfl]
    exact ⟨_, _, _, _, _, _, _, _, _, _, _, _, _, _, _, _, _, _, _, _, _, rfl, rfl, hv⟩

theorem call_better (hG : GD K P S W T) (hN : 40000 ≤ N) {x : Int32} {c_full : Int32} {c_cost : Nat → Int64} {c_found : Nat → Int32} {c_least : Nat → Int64} {c_weight : Nat → Int32} {c_aimed_askers : Int32} {c_aimed_places : Int32} {c_aimed_seatBits : Int32} {c_aimed_entries : Int32} {c_aimed_best : Nat → Int32} {c_aimed_clipAll : Nat → Int32} {c_aimed_clipToOne : Nat → Int32} {c_aimed_clipToTwo : Nat → Int32} {c_aimed_firstOf : Nat → Int32} {c_aimed_gains : Nat → Int32} {c_aimed_left : Nat → Int32} {c_aimed_next : Nat → Int32} {c_aimed_solvedGains : Nat → Int32} {c_aimed_ways : Nat → Int32} {c_all_slots : Nat → Int32} (hv : SV c_aimed_askers c_aimed_places c_aimed_seatBits c_aimed_best c_aimed_next c_aimed_solvedGains c_aimed_ways) : ∀ {ca cp ma mp : Int32} {cs cl ct cw ms mw mt : Nat → Int32}, SB K P S W T ca cp cs cl ct cw → RepM K P S W T ma mp ms mw mt →
    ∃ r ca' cp' sb' ce' best' clA' clO' clT' fo' g' left' next' sg' ways' slots' full' cost' found' least' weight', f_X7_better N ca cp cs ct cw c_aimed_askers c_aimed_places c_aimed_seatBits c_aimed_entries c_aimed_best c_aimed_clipAll c_aimed_clipToOne c_aimed_clipToTwo c_aimed_firstOf c_aimed_gains c_aimed_left c_aimed_next c_aimed_solvedGains c_aimed_ways c_all_slots x = some (r, ca', cp', sb', ce', best', clA', clO', clT', fo', g', left', next', sg', ways', slots') ∧
      f_X8_better N ma mp ms mt mw c_full c_cost c_found c_least c_weight x = some (r, full', cost', found', least', weight') ∧ SV ca' cp' sb' best' next' sg' ways' := by
  intro ca cp ma mp cs cl ct cw ms mw mt hB hM
  obtain ⟨⟨e1, e2, b3, b4, b5⟩, hl⟩ := hB
  obtain ⟨m1, m2, m3, m4, m5⟩ := hM
  have hP := hG.P6
  have hK := hG.K8
  subst e1; subst m1; subst e2; subst m2
  unfold f_X7_better f_X8_better
  rw [X7_isTold_ok, X8_isTold_ok, bd, bd]
  by_cases hx : isM 4 x
  · rw [if_pos hx, if_neg one_ne, if_neg one_ne]
    obtain ⟨g, hg, rfl⟩ := isM_ex hx
    obtain ⟨ce', best', clA', clO', clT', fo', g', left', next', sg', ways', slots', s1, s2, s3, s4, s5⟩ := X7_solveVotes_ok (rz := 1) (fz := if true then none else some (-1)) hN hG b3 b4 b5 hg small1 small_nb (c_aimed_entries := c_aimed_entries) (c_aimed_clipAll := c_aimed_clipAll) (c_aimed_clipToOne := c_aimed_clipToOne) (c_aimed_clipToTwo := c_aimed_clipToTwo) (c_aimed_firstOf := c_aimed_firstOf) (c_aimed_gains := c_aimed_gains) (c_aimed_left := c_aimed_left) (c_all_slots := c_all_slots) hv
    obtain ⟨B, M, v1, v2⟩ := votes_some (g := g) (rz := 1) (fz := if true then none else some (-1)) hG
    obtain ⟨u1, u2, u3⟩ := rows_b31 hK hP s2 s3 v1
    obtain ⟨full', cost', found', least', weight', f1, f2⟩ := X8_findBeater_ok (nb := true) hN hG m3 m4 m5 hg v1 u2 (c_full := c_full) (c_cost := c_cost) (c_found := c_found) (c_least := c_least) (c_weight := c_weight)
    rw [show zI 1 = 1 from rfl, fI_nb] at s1
    have s1' : f_X7_solveVotes N (nI K) (nI P) cs ct cw c_aimed_askers c_aimed_places c_aimed_seatBits c_aimed_entries c_aimed_best c_aimed_clipAll c_aimed_clipToOne c_aimed_clipToTwo c_aimed_firstOf c_aimed_gains c_aimed_left c_aimed_next c_aimed_solvedGains c_aimed_ways c_all_slots (nI g) 1 RUL = _ := s1
    have f1' : f_X8_findBeater N (nI K) (nI P) ms mt mw c_full c_cost c_found c_least c_weight (nI g) 1 = _ := f1
    rw [show (-2000000000 : Int32) = RUL from rfl, s1', bd, f1', bd]
    simp only
    rw [bestGain_ok s5 u1, bd]
    exact ⟨_, _, _, _, _, _, _, _, _, _, _, _, _, _, _, _, _, _, _, _, _, rfl, rfl, SV_of hK hP hG.S3 s3 s4 s5⟩
  · rw [if_neg hx, if_pos rfl, if_pos rfl]
    exact ⟨_, _, _, _, _, _, _, _, _, _, _, _, _, _, _, _, _, _, _, _, _, rfl, rfl, hv⟩

theorem call_beater (hG : GD K P S W T) (hN : 40000 ≤ N) {x y : Int32} {c_full : Int32} {c_cost : Nat → Int64} {c_found : Nat → Int32} {c_least : Nat → Int64} {c_weight : Nat → Int32} {c_aimed_askers : Int32} {c_aimed_places : Int32} {c_aimed_seatBits : Int32} {c_aimed_entries : Int32} {c_row : Nat → Int32} {c_aimed_best : Nat → Int32} {c_aimed_clipAll : Nat → Int32} {c_aimed_clipToOne : Nat → Int32} {c_aimed_clipToTwo : Nat → Int32} {c_aimed_firstOf : Nat → Int32} {c_aimed_gains : Nat → Int32} {c_aimed_left : Nat → Int32} {c_aimed_next : Nat → Int32} {c_aimed_solvedGains : Nat → Int32} {c_aimed_ways : Nat → Int32} {c_all_slots : Nat → Int32} (hv : SV c_aimed_askers c_aimed_places c_aimed_seatBits c_aimed_best c_aimed_next c_aimed_solvedGains c_aimed_ways) : ∀ {ca cp ma mp : Int32} {cs cl ct cw ms mw mt : Nat → Int32}, SB K P S W T ca cp cs cl ct cw → RepM K P S W T ma mp ms mw mt →
    ∃ r ca' cp' sb' ce' row' best' clA' clO' clT' fo' g' left' next' sg' ways' slots' full' cost' found' least' weight', f_X7_beater N ca cp cs ct cw c_aimed_askers c_aimed_places c_aimed_seatBits c_aimed_entries c_row c_aimed_best c_aimed_clipAll c_aimed_clipToOne c_aimed_clipToTwo c_aimed_firstOf c_aimed_gains c_aimed_left c_aimed_next c_aimed_solvedGains c_aimed_ways c_all_slots x y = some (r, ca', cp', sb', ce', row', best', clA', clO', clT', fo', g', left', next', sg', ways', slots') ∧
      f_X8_beater N ma mp ms mt mw c_full c_cost c_found c_least c_weight x y = some (r, full', cost', found', least', weight') ∧ SV ca' cp' sb' best' next' sg' ways' := by
  intro ca cp ma mp cs cl ct cw ms mw mt hB hM
  obtain ⟨⟨e1, e2, b3, b4, b5⟩, hl⟩ := hB
  obtain ⟨m1, m2, m3, m4, m5⟩ := hM
  have hP := hG.P6
  have hK := hG.K8
  subst e1; subst m1; subst e2; subst m2
  unfold f_X7_beater f_X8_beater
  rw [X7_isTold_ok, X8_isTold_ok, bd, bd]
  by_cases hx : isM 4 x
  · rw [if_pos hx, if_neg one_ne, if_neg one_ne, X0_isAsker_ok hK, X8_isAsker_ok hK, bd, bd]
    by_cases hy : isM K y
    · rw [if_pos hy, if_neg one_ne, if_neg one_ne]
      obtain ⟨g, hg, rfl⟩ := isM_ex hx
      obtain ⟨a, ha, rfl⟩ := isM_ex hy
      obtain ⟨ce', best', clA', clO', clT', fo', g', left', next', sg', ways', slots', s1, s2, s3, s4, s5⟩ := X7_solveVotes_ok (rz := 1) (fz := if false then none else some (-1)) hN hG b3 b4 b5 hg small1 small_nb (c_aimed_entries := c_aimed_entries) (c_aimed_clipAll := c_aimed_clipAll) (c_aimed_clipToOne := c_aimed_clipToOne) (c_aimed_clipToTwo := c_aimed_clipToTwo) (c_aimed_firstOf := c_aimed_firstOf) (c_aimed_gains := c_aimed_gains) (c_aimed_left := c_aimed_left) (c_all_slots := c_all_slots) hv
      obtain ⟨B, M, v1, v2⟩ := votes_some (g := g) (rz := 1) (fz := if false then none else some (-1)) hG
      obtain ⟨u1, u2, u3⟩ := rows_b31 hK hP s2 s3 v1
      obtain ⟨full', cost', found', least', weight', f1, f2⟩ := X8_findBeater_ok (nb := false) hN hG m3 m4 m5 hg v1 u2 (c_full := c_full) (c_cost := c_cost) (c_found := c_found) (c_least := c_least) (c_weight := c_weight)
      obtain ⟨row', p1, p2⟩ := pathTo_ok (N := N) hN hK hP s3 s4 s5 u1 u3 c_row
      rw [show zI 1 = 1 from rfl, fI_nb] at s1
      have s1' : f_X7_solveVotes N (nI K) (nI P) cs ct cw c_aimed_askers c_aimed_places c_aimed_seatBits c_aimed_entries c_aimed_best c_aimed_clipAll c_aimed_clipToOne c_aimed_clipToTwo c_aimed_firstOf c_aimed_gains c_aimed_left c_aimed_next c_aimed_solvedGains c_aimed_ways c_all_slots (nI g) 1 (-1 : Int32) = _ := s1
      have f1' : f_X8_findBeater N (nI K) (nI P) ms mt mw c_full c_cost c_found c_least c_weight (nI g) 0 = _ := f1
      rw [s1', bd, f1', bd]
      simp only
      rw [show (0 : Int32) = nI 0 from rfl, p1, bd, rdI_n _ (by omega) (by decide), bd, p2 a ha, nthT_rows s2, rdI_n _ (by omega) (by decide), bd, f2 a ha]
      exact ⟨_, _, _, _, _, _, _, _, _, _, _, _, _, _, _, _, _, _, _, _, _, _, rfl, rfl, SV_of hK hP hG.S3 s3 s4 s5⟩
    · rw [if_neg hy, if_pos rfl, if_pos rfl]
      exact ⟨_, _, _, _, _, _, _, _, _, _, _, _, _, _, _, _, _, _, _, _, _, _, rfl, rfl, hv⟩
  · rw [if_neg hx, if_pos rfl, if_pos rfl]
    exact ⟨_, _, _, _, _, _, _, _, _, _, _, _, _, _, _, _, _, _, _, _, _, _, rfl, rfl, hv⟩
end VOTES2
