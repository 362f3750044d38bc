/-! FACTOR: the class's best ratio, and the call -/
section FACTOR
variable {N K P : Nat} {S : Nat → Nat} {W T : Nat → Nat → Nat}
def mes (x y : Nat) : Nat := fb_ct (fun k => decide ((k / 8 + 1) * y ≤ x * (k % 8 + 1))) 64
theorem mes_lt {x y x' y' : Nat} (hy : 0 < y) (h : x * y' < x' * y) (h1 : 1 ≤ x') (h2 : x' ≤ 8) (h3 : 1 ≤ y') (h4 : y' ≤ 8) : mes x y < mes x' y' := by
  have hk : (x' - 1) * 8 + (y' - 1) < 64 := by omega
  have hu := fb_ct_upd (fun k => decide ((k / 8 + 1) * y ≤ x * (k % 8 + 1))) true (i := (x' - 1) * 8 + (y' - 1)) (n := 64) hk
  have e1 : ((x' - 1) * 8 + (y' - 1)) / 8 + 1 = x' := by omega
  have e2 : ((x' - 1) * 8 + (y' - 1)) % 8 + 1 = y' := by omega
  simp only [e1, e2] at hu
  rw [if_neg (show ¬ decide (x' * y ≤ x * y') = true from fun z => by have := of_decide_eq_true z; omega), if_pos trivial] at hu
  have hs : fb_ct (fun k => if k = (x' - 1) * 8 + (y' - 1) then true else decide ((k / 8 + 1) * y ≤ x * (k % 8 + 1))) 64 ≤ mes x' y' := by
    refine fb_ct_sub (fun k hk2 hp => decide_eq_true ?_)
    by_cases e : k = (x' - 1) * 8 + (y' - 1)
    · rw [e, e1, e2]; exact Nat.le_refl _
    · rw [if_neg e] at hp
      have hp := of_decide_eq_true hp
      generalize k / 8 + 1 = u at *
      generalize k % 8 + 1 = w at *
      have : u * y' * y ≤ x' * w * y := by
        calc u * y' * y = u * y * y' := by rw [Nat.mul_right_comm]
          _ ≤ x * w * y' := Nat.mul_le_mul_right y' hp
          _ = x * y' * w := by rw [Nat.mul_right_comm]
          _ ≤ x' * y * w := Nat.mul_le_mul_right w (Nat.le_of_lt h)
          _ = x' * w * y := by rw [Nat.mul_right_comm]
      exact Nat.le_of_mul_le_mul_right this hy
  have hd : mes x y = fb_ct (fun k => decide ((k / 8 + 1) * y ≤ x * (k % 8 + 1))) 64 := rfl
  omega
theorem votes_nat {x y x' y' : Nat} {B : Int} (h : (y : Int) * (x' : Nat) + (some (-(x : Int))).getD 0 * (y' : Nat) = B) : (0 < B ↔ x * y' < y * x') ∧ (B ≤ 0 ↔ y * x' ≤ x * y') := by
  have e1 : (y : Int) * (x' : Nat) = ((y * x' : Nat) : Int) := (Int.natCast_mul _ _).symm
  have e2 : (some (-(x : Int))).getD 0 * (y' : Nat) = -((x * y' : Nat) : Int) := by rw [Option.getD_some, Int.neg_mul, Int.natCast_mul]
  rw [e1, e2] at h
  omega
theorem ff_7 (hN : 40000 ≤ N) (hG : GD K P S W T) {cs ct cw : Nat → Int32} (hs3 : ∀ q, q < 6 → cs q = nI (S q)) (hw4 : ∀ a q, a < 8 → q < 6 → cw (a * 6 + q) = nI (W a q)) (ht5 : ∀ g a, g < 4 → a < 8 → ct (g * 8 + a) = oI (T g a)) {g : Nat} (hg : g < 4) (hno : ∀ x, AtG K P S W (T g) x 0 → x = 0) (hk : ∃ x y, 1 ≤ x ∧ y ≤ 1 ∧ AtG K P S W (T g) x y) :
    ∀ (n i x y : Nat) {c_above : Int64} {c_below : Int64} {c_aimed_askers : Int32} {c_aimed_places : Int32} {c_aimed_seatBits : Int32} {c_aimed_entries : Int32} {c_row : (Nat → Int32)} {c_aimed_best : (Nat → Int32)} {c_aimed_clipAll : (Nat → Int32)} {c_aimed_clipToOne : (Nat → Int32)} {c_aimed_clipToTwo : (Nat → Int32)} {c_aimed_firstOf : (Nat → Int32)} {c_aimed_gains : (Nat → Int32)} {c_aimed_left : (Nat → Int32)} {c_aimed_next : (Nat → Int32)} {c_aimed_solvedGains : (Nat → Int32)} {c_aimed_ways : (Nat → Int32)} {c_all_slots : (Nat → Int32)}, SV c_aimed_askers c_aimed_places c_aimed_seatBits c_aimed_best c_aimed_next c_aimed_solvedGains c_aimed_ways → 1 ≤ x → x ≤ 8 → 1 ≤ y → y ≤ 8 → (AtG K P S W (T g) x y ∨ (x = 1 ∧ y = 1)) → i < mes x y → 65 - i < n →
      ∃ A B ca' cp' sb' ce' row' best' clA' clO' clT' fo' g' left' next' sg' ways' slots', BestR K P S W (T g) A B ∧ f_X7_findFactor_7 N (nI K) (nI P) cs ct cw n c_above c_below c_aimed_askers c_aimed_places c_aimed_seatBits c_aimed_entries c_row c_aimed_best c_aimed_clipAll c_aimed_clipToOne c_aimed_clipToTwo c_aimed_firstOf c_aimed_gains c_aimed_left c_aimed_next c_aimed_solvedGains c_aimed_ways c_all_slots (nI g) (nI x) (nI y) (nI i) = some (lN (A / Nat.gcd A B), lN (B / Nat.gcd A B), ca', cp', sb', ce', row', best', clA', clO', clT', fo', g', left', next', sg', ways', slots') ∧ SV ca' cp' sb' best' next' sg' ways' := by
  have hP := hG.P6
  have hK := hG.K8
  intro n
  induction n with
  | zero => intro i x y; intros; omega
  | succ n ih =>
    intro i x y c_above c_below c_aimed_askers c_aimed_places c_aimed_seatBits c_aimed_entries c_row c_aimed_best c_aimed_clipAll c_aimed_clipToOne c_aimed_clipToTwo c_aimed_firstOf c_aimed_gains c_aimed_left c_aimed_next c_aimed_solvedGains c_aimed_ways c_all_slots hv hx1 hx8 hy1 hy8 hat hi hn
    have hi64 : i < 64 := Nat.lt_of_lt_of_le hi (fb_ct_le _ 64)
    rw [f_X7_findFactor_7, if_neg (show ¬ 64 ≤ nI i from nI_ge (b := 64) hi64 (by omega))]
    obtain ⟨ce', best', clA', clO', clT', fo', g', left', next', sg', ways', slots', s1, s2, s3, s4, s5⟩ := X7_solveVotes_ok (N := N) (rz := (y : Int)) (fz := some (-(x : Int))) hN hG hs3 hw4 ht5 hg ⟨by omega, by omega⟩ (fun z hz => by cases hz; exact ⟨by omega, by omega⟩) (c_aimed_entries := c_aimed_entries) (c_aimed_clipAll := c_aimed_clipAll) (c_aimed_clipToOne := c_aimed_clipToOne) (c_aimed_clipToTwo := c_aimed_clipToTwo) (c_aimed_firstOf := c_aimed_firstOf) (c_aimed_gains := c_aimed_gains) (c_aimed_left := c_aimed_left) (c_all_slots := c_all_slots) hv
    obtain ⟨B, M, v1, v2⟩ := votes_some (g := g) (rz := (y : Int)) (fz := some (-(x : Int))) hG
    obtain ⟨u1, u2, u3⟩ := rows_b31 hK hP s2 s3 v1
    have hv' := SV_of hK hP hG.S3 s3 s4 s5
    rw [show zI (y : Int) = nI y from zI_nat y, show fI (some (-(x : Int))) = -(nI x) by show zI (-(x : Int)) = -(nI x); rw [← zI_neg, zI_nat]] at s1
    rw [s1, bd]
    simp only
    rw [bestGain_ok s5 u1, bd]
    by_cases hB : 0 < B
    · rw [if_pos (show (0 : Int32) < zI B from (zI_lt (a := 0) ⟨by omega, by omega⟩ u2).mpr hB)]
      obtain ⟨row', p1, p2⟩ := pathTo_ok (N := N) hN hK hP s3 s4 s5 u1 u3 c_row
      rw [nthT_rows s2] at p2
      obtain ⟨t, ht, t1, t2, t3, t4⟩ := votes_path hG v1
      rw [← ht] at p2
      have hat' : AtG K P S W (T g) (rise K W t (T g)) (rise K W (T g) t) := ⟨t, t1, rfl, rfl⟩
      have hle := AtG_le hat'
      have hgt := (votes_nat t4.symm).1.mp hB
      have hx' : 1 ≤ rise K W t (T g) := by
        rcases Nat.eq_zero_or_pos (rise K W t (T g)) with z | z
        · rw [z, Nat.mul_zero] at hgt; omega
        · exact z
      have hy' : 1 ≤ rise K W (T g) t := by
        rcases Nat.eq_zero_or_pos (rise K W (T g) t) with z | z
        · rw [z] at hat'; have := hno _ hat'; omega
        · exact z
      rw [show (0 : Int32) = nI 0 from rfl, p1, bd, X7_countRisers_ok hN hG hw4 ht5 p2 t2 hg, bd, X7_countFallers_ok hN hG hw4 ht5 p2 t2 hg, bd, nI_1]
      have hm := mes_lt (x := x) (y := y) (x' := rise K W t (T g)) (y' := rise K W (T g) t) hy1 (by rw [Nat.mul_comm (rise K W t (T g)) y]; exact hgt) hx' (by omega) hy' (by omega)
      exact ih (i + 1) _ _ hv' hx' (by omega) hy' (by omega) (Or.inl hat') (by omega) (by omega)
    · rw [if_neg (show ¬ (0 : Int32) < zI B from fun z => hB ((zI_lt (a := 0) ⟨by omega, by omega⟩ u2).mp z))]
      have hopt : ∀ x' y', AtG K P S W (T g) x' y' → x' * y ≤ x * y' := by
        rintro x' y' ⟨t, t1, t2, t3⟩
        have := votes_val hG t1 (g := g) (rz := (y : Int)) (fz := some (-(x : Int))) (fun z => by cases z) v1
        rw [t2, t3] at this
        have h2 := (votes_nat (x := x) (y := y) (x' := x') (y' := y') rfl).2.mp (by omega)
        rw [Nat.mul_comm x' y]; exact h2
      have hat2 : AtG K P S W (T g) x y := by
        rcases hat with z | ⟨z1, z2⟩
        · exact z
        · obtain ⟨x0, y0, k1, k2, k3⟩ := hk
          have h1 := hopt x0 y0 k3
          rw [z1, z2] at h1 ⊢
          rcases Nat.eq_zero_or_pos y0 with e | e
          · rw [e] at k3
            have := hno _ k3
            omega
          · have e1 : y0 = 1 := by omega
            rw [e1] at k3 h1
            have e2 : x0 = 1 := by omega
            rw [e2] at k3
            exact k3
      unfold f_X7_findFactor_65
      rw [nI_l (by omega), nI_l (by omega), tellFraction_ok hN (by omega) (by omega) (by omega), bd]
      exact ⟨x, y, _, _, _, _, _, _, _, _, _, _, _, _, _, _, _, _, ⟨hopt, Or.inr (Or.inr ⟨hx1, hy1, hat2⟩)⟩, rfl, hv'⟩
theorem X7_factor_yes (hN : 40000 ≤ N) (hG : GD K P S W T) {cs ct cw cl : Nat → Int32} (hs3 : ∀ q, q < 6 → cs q = nI (S q)) (hw4 : ∀ a q, a < 8 → q < 6 → cw (a * 6 + q) = nI (W a q)) (ht5 : ∀ g a, g < 4 → a < 8 → ct (g * 8 + a) = oI (T g a)) (hl : LikesOk P W cl) {g : Nat} (hg : g < 4) {c_above : Int64} {c_below : Int64} {c_aimed_askers : Int32} {c_aimed_places : Int32} {c_aimed_seatBits : Int32} {c_aimed_entries : Int32} {c_row : Nat → Int32} {c_aimed_best : Nat → Int32} {c_aimed_clipAll : Nat → Int32} {c_aimed_clipToOne : Nat → Int32} {c_aimed_clipToTwo : Nat → Int32} {c_aimed_firstOf : Nat → Int32} {c_aimed_gains : Nat → Int32} {c_aimed_left : Nat → Int32} {c_aimed_next : Nat → Int32} {c_aimed_solvedGains : Nat → Int32} {c_aimed_ways : Nat → Int32} {c_all_slots : Nat → Int32} (hv : SV c_aimed_askers c_aimed_places c_aimed_seatBits c_aimed_best c_aimed_next c_aimed_solvedGains c_aimed_ways) :
    ∃ A B ca' cp' sb' ce' row' best' clA' clO' clT' fo' g' left' next' sg' ways' slots', BestR K P S W (T g) A B ∧ f_X7_factor N (nI K) (nI P) cl cs ct cw c_above c_below c_aimed_askers c_aimed_places c_aimed_seatBits c_aimed_entries c_row c_aimed_best c_aimed_clipAll c_aimed_clipToOne c_aimed_clipToTwo c_aimed_firstOf c_aimed_gains c_aimed_left c_aimed_next c_aimed_solvedGains c_aimed_ways c_all_slots (nI g) = some (1, lN (A / Nat.gcd A B), lN (B / Nat.gcd A B), ca', cp', sb', ce', row', best', clA', clO', clT', fo', g', left', next', sg', ways', slots') ∧ SV ca' cp' sb' best' next' sg' ways' := by
  have hP := hG.P6
  have hK := hG.K8
  unfold f_X7_factor
  rw [X7_isTold_ok, bd, if_pos (isM_nI hg (by decide)), if_neg one_ne]
  obtain ⟨r, r1, r2⟩ := canAnyRise_ok (N := N) hN hG hw4 ht5 hl hg N 0 (by omega) (by omega) (fun b o hb => absurd hb (Nat.not_lt_zero _))
  have r1' : f_X7_canAnyRise N (nI K) cl ct cw (nI g) = some r := r1
  rw [r1', bd]
  rcases r2 with ⟨rfl, hnone⟩ | ⟨rfl, b, o, hb, ho, hop, hlt⟩
  · rw [if_pos rfl, show (0 : Int64) = lN 0 from rfl, show (1 : Int64) = lN 1 from rfl, tellFraction_ok hN (by omega) (by omega) (by omega), bd]
    refine ⟨0, 1, _, _, _, _, _, _, _, _, _, _, _, _, _, _, _, _, ⟨?_, Or.inl ⟨rfl, rfl⟩⟩, rfl, hv⟩
    rintro x y ⟨t, t1, t2, t3⟩
    have : rise K W t (T g) = 0 := fb_ct_zero.mpr (fun a ha => decide_eq_false (by
      have := hnone a (t a) ha (t1.1 a ha)
      omega))
    rw [this] at t2
    rw [← t2, Nat.zero_mul]
    exact Nat.zero_le _
  · rw [if_neg one_ne]
    unfold f_X7_better
    rw [X7_isTold_ok, bd, if_pos (isM_nI hg (by decide)), if_neg one_ne]
    obtain ⟨ce', best', clA', clO', clT', fo', g', left', next', sg', ways', slots', s1, s2, s3, s4, s5⟩ := X7_solveVotes_ok (N := N) (rz := 1) (fz := none) hN hG hs3 hw4 ht5 hg small1 (fun z hz => by cases hz) (c_aimed_entries := c_aimed_entries) (c_aimed_clipAll := c_aimed_clipAll) (c_aimed_clipToOne := c_aimed_clipToOne) (c_aimed_clipToTwo := c_aimed_clipToTwo) (c_aimed_firstOf := c_aimed_firstOf) (c_aimed_gains := c_aimed_gains) (c_aimed_left := c_aimed_left) (c_all_slots := c_all_slots) hv
    obtain ⟨B, M, v1, v2⟩ := votes_some (g := g) (rz := 1) (fz := none) hG
    obtain ⟨u1, u2, u3⟩ := rows_b31 hK hP s2 s3 v1
    have hv' := SV_of hK hP hG.S3 s3 s4 s5
    rw [show zI 1 = 1 from rfl, show fI none = (-2000000000 : Int32) from rfl] at s1
    rw [s1, bd]
    simp only
    rw [bestGain_ok s5 u1, bd, bd]
    simp only
    by_cases hB : B ≤ 0
    · rw [if_pos (show zI B ≤ 0 from (zI_le (b := 0) u2 ⟨by omega, by omega⟩).mpr hB)]
      have hno : ∀ x, AtG K P S W (T g) x 0 → x = 0 := by
        rintro x ⟨t, t1, t2, t3⟩
        have := votes_val hG t1 (g := g) (rz := 1) (fz := none) (fun _ => t3) v1
        rw [t2, t3] at this
        simp at this
        omega
      obtain ⟨A, B', ca2, cp2, sb2, ce2, row2, best2, clA2, clO2, clT2, fo2, g2, left2, next2, sg2, ways2, slots2, f1, f2, f3⟩ := ff_7 (N := N) (c_above := c_above) (c_below := c_below) (c_row := c_row) (c_aimed_entries := ce') (c_aimed_clipAll := clA') (c_aimed_clipToOne := clO') (c_aimed_clipToTwo := clT') (c_aimed_firstOf := fo') (c_aimed_gains := g') (c_aimed_left := left') (c_all_slots := slots') hN hG hs3 hw4 ht5 hg hno (kick hG hg hb ho hop hlt) N 0 1 1 hv' (by omega) (by omega) (by omega) (by omega) (Or.inr ⟨rfl, rfl⟩) (by decide) (by omega)
      have f2' : f_X7_findFactor N (nI K) (nI P) cs ct cw c_above c_below (nI K) (nI P) (nI (e4 S P)) ce' c_row best' clA' clO' clT' fo' g' left' next' sg' ways' slots' (nI g) = _ := f2
      rw [f2', bd]
      exact ⟨A, B', _, _, _, _, _, _, _, _, _, _, _, _, _, _, _, _, f1, rfl, f3⟩
    · rw [if_neg (show ¬ zI B ≤ 0 from fun z => hB ((zI_le (b := 0) u2 ⟨by omega, by omega⟩).mp z)), show (0 : Int64) = lN 0 from rfl, show (1 : Int64) = lN 1 from rfl, tellFraction_ok hN (by omega) (by omega) (by omega), bd]
      obtain ⟨t, ht, t1, t2, t3, t4⟩ := votes_path hG v1
      have ty := t3 rfl
      rw [ty] at t4
      simp at t4
      exact ⟨1, 0, _, _, _, _, _, _, _, _, _, _, _, _, _, _, _, _, ⟨fun x y _ => by rw [Nat.mul_zero]; exact Nat.zero_le _, Or.inr (Or.inl ⟨rfl, rfl, _, (by omega : 0 < rise K W t (T g)), t, t1, rfl, ty⟩)⟩, rfl, hv'⟩
theorem call_factor (hG : GD K P S W T) (hN : 40000 ≤ N) {x : Int32} {fa fb : Int64} {c_full : Int32} {c_next : Nat → Int32} {c_prefer : Nat → Int32} {c_weight : Nat → Int32} {c_aimed_askers : Int32} {c_aimed_places : Int32} {c_aimed_seatBits : Int32} {c_aimed_entries : Int32} {c_row : Nat → Int32} {c_aimed_best : Nat → Int32} {c_aimed_clipAll : Nat → Int32} {c_aimed_clipToOne : Nat → Int32} {c_aimed_clipToTwo : Nat → Int32} {c_aimed_firstOf : Nat → Int32} {c_aimed_gains : Nat → Int32} {c_aimed_left : Nat → Int32} {c_aimed_next : Nat → Int32} {c_aimed_solvedGains : Nat → Int32} {c_aimed_ways : Nat → Int32} {c_all_slots : Nat → Int32} (hv : SV c_aimed_askers c_aimed_places c_aimed_seatBits c_aimed_best c_aimed_next c_aimed_solvedGains c_aimed_ways) : ∀ {ca cp ma mp : Int32} {cs cl ct cw ms mw mt : Nat → Int32}, SB K P S W T ca cp cs cl ct cw → RepM K P S W T ma mp ms mw mt →
    ∃ r fa' fb' ca' cp' sb' ce' row' best' clA' clO' clT' fo' g' left' next' sg' ways' slots' full' next2' pref' weight', f_X7_factor N ca cp cl cs ct cw fa fb c_aimed_askers c_aimed_places c_aimed_seatBits c_aimed_entries c_row c_aimed_best c_aimed_clipAll c_aimed_clipToOne c_aimed_clipToTwo c_aimed_firstOf c_aimed_gains c_aimed_left c_aimed_next c_aimed_solvedGains c_aimed_ways c_all_slots x = some (r, fa', fb', ca', cp', sb', ce', row', best', clA', clO', clT', fo', g', left', next', sg', ways', slots') ∧
      f_X8_factor N ma mp ms mt mw fa fb c_full c_next c_prefer c_weight x = some (r, fa', fb', full', next2', pref', weight') ∧ SV ca' cp' sb' best' next' sg' ways' := by
  intro ca cp ma mp cs cl ct cw ms mw mt hB hM
  obtain ⟨⟨e1, e2, b3, b4, b5⟩, hl⟩ := hB
  obtain ⟨m1, m2, m3, m4, m5⟩ := hM
  subst e1; subst m1; subst e2; subst m2
  by_cases hx : isM 4 x
  · obtain ⟨g, hg, rfl⟩ := isM_ex hx
    obtain ⟨A, B, ca', cp', sb', ce', row', best', clA', clO', clT', fo', g', left', next', sg', ways', slots', h1, h2, h3⟩ := X7_factor_yes (N := N) (c_above := fa) (c_below := fb) (c_row := c_row) (c_aimed_entries := c_aimed_entries) (c_aimed_clipAll := c_aimed_clipAll) (c_aimed_clipToOne := c_aimed_clipToOne) (c_aimed_clipToTwo := c_aimed_clipToTwo) (c_aimed_firstOf := c_aimed_firstOf) (c_aimed_gains := c_aimed_gains) (c_aimed_left := c_aimed_left) (c_all_slots := c_all_slots) hN hG b3 b4 b5 hl hg hv
    obtain ⟨A', B', full', next2', pref', weight', h4, h5⟩ := X8_factor_yes (N := N) (c_above := fa) (c_below := fb) (c_full := c_full) (c_next := c_next) (c_prefer := c_prefer) (c_weight := c_weight) hN hG m3 m4 m5 hg
    obtain ⟨q1, q2⟩ := BestR_one h1 h4
    rw [← q1, ← q2] at h5
    exact ⟨_, _, _, _, _, _, _, _, _, _, _, _, _, _, _, _, _, _, _, _, _, _, _, h2, h5, h3⟩
  · unfold f_X7_factor f_X8_factor
    rw [X7_isTold_ok, X8_isTold_ok, bd, bd, if_neg hx, if_pos rfl, if_pos rfl]
    exact ⟨_, _, _, _, _, _, _, _, _, _, _, _, _, _, _, _, _, _, _, _, _, _, _, rfl, rfl, hv⟩
end FACTOR
