/-! STAND: the class's standing -/
section STAND
variable {N K P : Nat} {S : Nat → Nat} {W T : Nat → Nat → Nat}
def sCt (P : Nat) (t : List Row) (σ : Sv) (most : Nat) : Nat := match bw P t σ with
  | none => 0
  | some q => if q.1 = (most : Int) then q.2 else 0
theorem small01 : smallZ (1 + 0) ∧ smallZ 0 := ⟨⟨by decide, by decide⟩, ⟨by decide, by decide⟩⟩
theorem X7_standing_ok (hN : 40000 ≤ N) (hG : GD K P S W T) {cs cl cw : Nat → Int32} (hs3 : ∀ q, q < 6 → cs q = nI (S q)) (hw4 : ∀ a q, a < 8 → q < 6 → cw (a * 6 + q) = nI (W a q)) (hl : LikesOk P W cl) {c_steadiness_most : Int32} {c_steadiness_tight : Int32} {c_steady_askers : Int32} {c_steady_places : Int32} {c_steady_seatBits : Int32} {c_steady_entries : Int32} {c_all_slots : Nat → Int32} {c_steadiness_firsts : Nat → Int32} {c_steady_best : Nat → Int32} {c_steady_clipAll : Nat → Int32} {c_steady_clipToOne : Nat → Int32} {c_steady_clipToTwo : Nat → Int32} {c_steady_firstOf : Nat → Int32} {c_steady_gains : Nat → Int32} {c_steady_left : Nat → Int32} {c_steady_next : Nat → Int32} {c_steady_solvedGains : Nat → Int32} {c_steady_ways : Nat → Int32} (hv : SV c_steady_askers c_steady_places c_steady_seatBits c_steady_best c_steady_next c_steady_solvedGains c_steady_ways) :
    ∃ most tight ce' slots' firsts' best' clA' clO' clT' fo' g' left' next' sg' ways', f_X7_standing N (nI K) (nI P) cl cs cw c_steadiness_most c_steadiness_tight c_steady_askers c_steady_places c_steady_seatBits c_steady_entries c_all_slots c_steadiness_firsts c_steady_best c_steady_clipAll c_steady_clipToOne c_steady_clipToTwo c_steady_firstOf c_steady_gains c_steady_left c_steady_next c_steady_solvedGains c_steady_ways = some (lN (sCt P (rf (sRow W P tight 1 0) 0 K) S most), nI most, nI tight, nI K, nI P, nI (e4 S P), ce', slots', firsts', best', clA', clO', clT', fo', g', left', next', sg', ways') ∧
      LI K P S W (2 ^ P) most tight ∧ (∀ b, b < K → firsts' b = nI (em (fB W P b) P)) ∧ RowsAre K P g' (sRow W P tight 1 0) ∧ GB K P g' ∧ SameG K P g' sg' ∧ Ent K P g' best' ways' next' K 0 0 S := by
  have hP := hG.P6
  have hK := hG.K8
  unfold f_X7_standing
  obtain ⟨most, tight, firsts', l1, l2, l3⟩ := learn_ok (N := N) (m0 := c_steadiness_most) (t0 := c_steadiness_tight) hN hG hs3 hw4 hl N 0 c_steadiness_firsts (Nat.zero_le _) (by omega) (fun b hb => absurd hb (Nat.not_lt_zero _))
  have l1' : f_X5_learn N (nI K) (nI P) cl cs cw c_steadiness_most c_steadiness_tight c_steadiness_firsts = some (nI most, nI tight, firsts') := l1
  have hmK := l2.2.1
  obtain ⟨g', g1, g2⟩ := fg_3 (N := N) (x := zI 1) (y := zI 0) hN hG hw4 l2.2.2.2.1 l3 N 0 c_steady_gains (Nat.zero_le _) (by omega) Fil_0
  have g1' : f_X5_fillGains N (nI tight) (nI K) (nI P) firsts' cw c_steady_gains 1 0 = some g' := g1
  obtain ⟨r1, r2⟩ := vStd_rows small01.1 small01.2 g2
  obtain ⟨ce', best', clA', clO', clT', fo', left', next', slots', sg', ways', s1, s2, s3⟩ := solve_ok (N := N) hN hK hP hG.S3 (fun q hq => hG.S0 hq) hs3 r2 hv c_steady_entries c_steady_clipAll c_steady_clipToOne c_steady_clipToTwo c_steady_firstOf c_steady_left c_all_slots
  rw [l1', bd]
  simp only
  rw [g1', bd, s1, bd]
  simp only
  cases hb : bw P (rf (sRow W P tight 1 0) 0 K) S with
  | none =>
    have hb' : bw P (gF K g' 0) S = none := (gF_rows r1 S (Nat.zero_le _)).trans hb
    rw [bestGain_none s3 hb', bd, if_neg (show ¬ RUL = nI most from fun z => by
      have := congrArg Int32.toInt z
      rw [nI_toInt (by omega)] at this
      have h2 : RUL.toInt = -2000000000 := by decide
      omega)]
    refine ⟨most, tight, ce', slots', firsts', best', clA', clO', clT', fo', g', left', next', sg', ways', ?_, l2, l3, r1, r2, s2, s3⟩
    unfold sCt
    rw [hb]
    rfl
  | some q =>
    obtain ⟨B, M⟩ := q
    obtain ⟨u1, u2, u3⟩ := rows_b31 hK hP r1 r2 hb
    have hMb := (bw_bound hP r2 K 0 S B M (by omega) u1).2.2
    have h7 : 7 ^ K ≤ 7 ^ 8 := Nat.pow_le_pow_right (by decide) hK
    rw [bestGain_ok s3 u1, bd]
    by_cases he : B = (most : Int)
    · rw [if_pos (show zI B = nI most by rw [he, zI_nat]), howMany_ok s3 u1, bd, nI_l (by omega)]
      refine ⟨most, tight, ce', slots', firsts', best', clA', clO', clT', fo', g', left', next', sg', ways', ?_, l2, l3, r1, r2, s2, s3⟩
      unfold sCt
      rw [hb]
      simp only
      rw [if_pos he]
    · rw [if_neg (show ¬ zI B = nI most from fun z => he (by
        rw [← zI_nat] at z
        exact (zI_eq u2 ⟨by omega, by omega⟩).mp z))]
      refine ⟨most, tight, ce', slots', firsts', best', clA', clO', clT', fo', g', left', next', sg', ways', ?_, l2, l3, r1, r2, s2, s3⟩
      unfold sCt
      rw [hb]
      simp only
      rw [if_neg he]
      rfl
end STAND
