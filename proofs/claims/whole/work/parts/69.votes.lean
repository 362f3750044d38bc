/-! votes: margin, beater, better -/
section VOTES
variable {N K P : Nat} {S : Nat → Nat} {W T : Nat → Nat → Nat}
def vVote (W T : Nat → Nat → Nat) (g : Nat) (rise fall : Int32) (a o : Nat) : Int32 := if 7 < wo W a o then RUL else if wo W a o < wo W a (T g a) then rise else if wo W a (T g a) < wo W a o then fall else 0
def vRow (W T : Nat → Nat → Nat) (g : Nat) (rz : Int) (fz : Option Int) (a : Nat) : Row := fun o => if 7 < wo W a o then none else if wo W a o < wo W a (T g a) then some rz else if wo W a (T g a) < wo W a o then fz else some 0
def fI (fz : Option Int) : Int32 := match fz with
  | none => RUL
  | some z => zI z
def smallZ (z : Int) : Prop := -16777216 ≤ z ∧ z ≤ 16777216
theorem zI_rul {z : Int} (h : smallZ z) : ¬ zI z = RUL := by
  intro e
  have e2 := congrArg Int32.toInt e
  rw [zI_toInt ⟨by have := h.1; omega, by have := h.2; omega⟩] at e2
  have : RUL.toInt = -2000000000 := by decide
  have := h.1
  omega
theorem zI_small {z : Int} (h : smallZ z) : (zI z).toInt = z := zI_toInt ⟨by have := h.1; omega, by have := h.2; omega⟩
theorem sv_30 (hP : P ≤ 6) (hW : ∀ a q, W a q ≤ 6) {cs ct cw : Nat → Int32} (hw4 : ∀ a q, a < 8 → q < 6 → cw (a * 6 + q) = nI (W a q)) {c_aimed_askers : Int32} {c_aimed_places : Int32} {c_aimed_seatBits : Int32} {c_aimed_entries : Int32} {c_aimed_best : (Nat → Int32)} {c_aimed_clipAll : (Nat → Int32)} {c_aimed_clipToOne : (Nat → Int32)} {c_aimed_clipToTwo : (Nat → Int32)} {c_aimed_firstOf : (Nat → Int32)} {c_aimed_left : (Nat → Int32)} {c_aimed_next : (Nat → Int32)} {c_aimed_solvedGains : (Nat → Int32)} {c_aimed_ways : (Nat → Int32)} {c_all_slots : (Nat → Int32)} {g : Nat} {rise fall x1 : Int32} {a : Nat} (ha : a < 8) (k3 : Int32 → Int32 → Int32 → Int32 → (Nat → Int32) → (Nat → Int32) → (Nat → Int32) → (Nat → Int32) → (Nat → Int32) → (Nat → Int32) → (Nat → Int32) → (Nat → Int32) → (Nat → Int32) → (Nat → Int32) → (Nat → Int32) → Int32 → Int32 → Int32 → Int32 → Option (Int32 × Int32 × Int32 × Int32 × (Nat → Int32) × (Nat → Int32) × (Nat → Int32) × (Nat → Int32) × (Nat → Int32) × (Nat → Int32) × (Nat → Int32) × (Nat → Int32) × (Nat → Int32) × (Nat → Int32) × (Nat → Int32))) :
    ∀ (n o : Nat) (c_aimed_gains : Nat → Int32), o ≤ P + 1 → P + 1 - o < n → Fil P (vVote W T g rise fall) a o c_aimed_gains → ∃ g', Fil P (vVote W T g rise fall) (a + 1) 0 g' ∧
      f_X7_solveVotes_30 N (nI K) (nI P) cs ct cw k3 n c_aimed_askers c_aimed_places c_aimed_seatBits c_aimed_entries c_aimed_best c_aimed_clipAll c_aimed_clipToOne c_aimed_clipToTwo c_aimed_firstOf c_aimed_gains c_aimed_left c_aimed_next c_aimed_solvedGains c_aimed_ways c_all_slots x1 rise fall (nI a) (nI (wo W a (T g a))) (oI o) = k3 c_aimed_askers c_aimed_places c_aimed_seatBits c_aimed_entries c_aimed_best c_aimed_clipAll c_aimed_clipToOne c_aimed_clipToTwo c_aimed_firstOf g' c_aimed_left c_aimed_next c_aimed_solvedGains c_aimed_ways c_all_slots x1 rise fall (nI (a + 1)) := by
  intro n
  induction n with
  | zero => intro o g h1 h2; omega
  | succ n ih =>
    intro o gg ho hn hf
    rw [f_X7_solveVotes_30]
    by_cases h : P + 1 ≤ o
    · have : o = P + 1 := by omega
      subst this
      simp (disch := omega) only [q_leo, if_pos h, nI_1]
      exact ⟨gg, Fil_next hf, rfl⟩
    · have h8 := wo_le W hW a o
      have h8t := wo_le W hW a (T g a)
      have hstep : ∀ x, (¬ 7 < wo W a o → x = vVote W T g rise fall a o) → ∃ g', Fil P (vVote W T g rise fall) (a + 1) 0 g' ∧
          f_X7_solveVotes_78 N (nI K) (nI P) cs ct cw (f_X7_solveVotes_30 N (nI K) (nI P) cs ct cw k3 n) c_aimed_askers c_aimed_places c_aimed_seatBits c_aimed_entries c_aimed_best c_aimed_clipAll c_aimed_clipToOne c_aimed_clipToTwo c_aimed_firstOf gg c_aimed_left c_aimed_next c_aimed_solvedGains c_aimed_ways c_all_slots x1 rise fall (nI a) (nI (wo W a (T g a))) (oI o) x = k3 c_aimed_askers c_aimed_places c_aimed_seatBits c_aimed_entries c_aimed_best c_aimed_clipAll c_aimed_clipToOne c_aimed_clipToTwo c_aimed_firstOf g' c_aimed_left c_aimed_next c_aimed_solvedGains c_aimed_ways c_all_slots x1 rise fall (nI (a + 1)) := by
        intro x hx
        unfold f_X7_solveVotes_78 f_X7_solveVotes_109
        rw [X0_isOpen_ok hW hw4 ha (by omega), bd]
        by_cases hw : 7 < wo W a o
        · rw [if_pos hw, if_pos rfl, setGain_ok gg ha (by omega), bd, oI_next]
          exact ih (o + 1) _ (by omega) (by omega) (Fil_upd hP hf (by omega) (by unfold vVote; rw [if_pos hw]; rfl))
        · rw [if_neg hw, if_neg one_ne, setGain_ok gg ha (by omega), bd, oI_next]
          exact ih (o + 1) _ (by omega) (by omega) (Fil_upd hP hf (by omega) (hx hw))
      simp (disch := omega) only [q_leo, if_neg h, X0_worthOf_ok N hW hw4 ha (show o ≤ 6 by omega), bd, q_le]
      by_cases h1 : wo W a (T g a) ≤ wo W a o
      · rw [if_pos h1]
        by_cases h2 : wo W a o ≤ wo W a (T g a)
        · rw [if_pos h2]
          exact hstep 0 (fun z => by unfold vVote; rw [if_neg z, if_neg (by omega), if_neg (by omega)])
        · rw [if_neg h2]
          exact hstep fall (fun z => by unfold vVote; rw [if_neg z, if_neg (by omega), if_pos (by omega)])
      · rw [if_neg h1]
        exact hstep rise (fun z => by unfold vVote; rw [if_neg z, if_pos (by omega)])
theorem sv_3 (hN : 40000 ≤ N) (hG : GD K P S W T) {cs ct cw : Nat → Int32} (hw4 : ∀ a q, a < 8 → q < 6 → cw (a * 6 + q) = nI (W a q)) (ht5 : ∀ g a, g < 4 → a < 8 → ct (g * 8 + a) = oI (T g a)) {c_aimed_askers : Int32} {c_aimed_places : Int32} {c_aimed_seatBits : Int32} {c_aimed_entries : Int32} {c_aimed_best : (Nat → Int32)} {c_aimed_clipAll : (Nat → Int32)} {c_aimed_clipToOne : (Nat → Int32)} {c_aimed_clipToTwo : (Nat → Int32)} {c_aimed_firstOf : (Nat → Int32)} {c_aimed_left : (Nat → Int32)} {c_aimed_next : (Nat → Int32)} {c_aimed_solvedGains : (Nat → Int32)} {c_aimed_ways : (Nat → Int32)} {c_all_slots : (Nat → Int32)} {g : Nat} (hg : g < 4) {rise fall : Int32} :
    ∀ (n a : Nat) (c_aimed_gains : Nat → Int32), a ≤ K → K - a < n → Fil P (vVote W T g rise fall) a 0 c_aimed_gains → ∃ g', Fil P (vVote W T g rise fall) K 0 g' ∧
      f_X7_solveVotes_3 N (nI K) (nI P) cs ct cw n c_aimed_askers c_aimed_places c_aimed_seatBits c_aimed_entries c_aimed_best c_aimed_clipAll c_aimed_clipToOne c_aimed_clipToTwo c_aimed_firstOf c_aimed_gains c_aimed_left c_aimed_next c_aimed_solvedGains c_aimed_ways c_all_slots (nI g) rise fall (nI a) = (f_X4_solve N (nI K) (nI P) g' cs c_aimed_askers c_aimed_places c_aimed_seatBits c_aimed_entries c_aimed_best c_aimed_clipAll c_aimed_clipToOne c_aimed_clipToTwo c_aimed_firstOf c_aimed_left c_aimed_next c_all_slots c_aimed_solvedGains c_aimed_ways).bind fun (o2, o3, o4, o5, o6, o7, o8, o9, o10, o11, o12, o13, o14, o15) => some (o2, o3, o4, o5, o6, o7, o8, o9, o10, g', o11, o12, o14, o15, o13) := by
  have hK := hG.K8
  have hP := hG.P6
  intro n
  induction n with
  | zero => intro a g h1 h2; omega
  | succ n ih =>
    intro a gg ha hn hf
    rw [f_X7_solveVotes_3]
    by_cases h : K ≤ a
    · have : a = K := by omega
      subst this
      rw [if_pos (nI_le (Nat.le_refl _) (by omega))]
      exact ⟨gg, hf, rfl⟩
    · rw [if_neg (nI_ge (by omega) (by omega)), X0_toldWorth_ok hG.W6 hw4 ht5 hg (by omega) (hG.T6 g a), bd, ← oI_0]
      obtain ⟨g', h1, h2⟩ := sv_30 (N := N) (K := K) (cs := cs) (ct := ct) (T := T) (g := g) (rise := rise) (fall := fall) (x1 := nI g) hP hG.W6 hw4 (c_aimed_askers := c_aimed_askers) (c_aimed_places := c_aimed_places) (c_aimed_seatBits := c_aimed_seatBits) (c_aimed_entries := c_aimed_entries) (c_aimed_best := c_aimed_best) (c_aimed_clipAll := c_aimed_clipAll) (c_aimed_clipToOne := c_aimed_clipToOne) (c_aimed_clipToTwo := c_aimed_clipToTwo) (c_aimed_firstOf := c_aimed_firstOf) (c_aimed_left := c_aimed_left) (c_aimed_next := c_aimed_next) (c_aimed_solvedGains := c_aimed_solvedGains) (c_aimed_ways := c_aimed_ways) (c_all_slots := c_all_slots) (show a < 8 by omega) (f_X7_solveVotes_3 N (nI K) (nI P) cs ct cw n) N 0 gg (Nat.zero_le _) (by omega) hf
      rw [h2]
      exact ih (a + 1) g' (by omega) (by omega) h1
theorem vVote_rows {rz : Int} {fz : Option Int} {g : Nat} (hr : smallZ rz) (hf : ∀ z, fz = some z → smallZ z) {gg : Nat → Int32} (h : Fil P (vVote W T g (zI rz) (fI fz)) K 0 gg) : RowsAre K P gg (vRow W T g rz fz) ∧ GB K P gg := by
  have e : ∀ a o, a < K → o ≤ P → gg (a * 7 + o) = vVote W T g (zI rz) (fI fz) a o := fun a o ha ho => h a o ho (Or.inl ha)
  have hz : zI 0 = 0 := by decide
  constructor
  · intro a o ha ho
    unfold gRow
    rw [e a o ha ho]
    unfold vVote vRow
    by_cases hw : 7 < wo W a o
    · rw [if_pos hw, if_pos rfl, if_pos hw]
    · rw [if_neg hw, if_neg hw]
      by_cases h1 : wo W a o < wo W a (T g a)
      · rw [if_pos h1, if_pos h1, if_neg (zI_rul hr), zI_small hr]
      · rw [if_neg h1, if_neg h1]
        by_cases h2 : wo W a (T g a) < wo W a o
        · rw [if_pos h2, if_pos h2]
          cases hfz : fz with
          | none => unfold fI; simp only; rw [if_pos trivial]
          | some z =>
            have := hf z hfz
            unfold fI
            simp only
            rw [if_neg (zI_rul this), zI_small this]
        · rw [if_neg h2, if_neg h2, if_neg (by decide)]; rfl
  · intro a o ha ho
    rw [e a o ha ho]
    unfold vVote
    by_cases hw : 7 < wo W a o
    · rw [if_pos hw]; exact Or.inl rfl
    · rw [if_neg hw]
      by_cases h1 : wo W a o < wo W a (T g a)
      · rw [if_pos h1, zI_small hr]; exact Or.inr hr
      · rw [if_neg h1]
        by_cases h2 : wo W a (T g a) < wo W a o
        · rw [if_pos h2]
          cases hfz : fz with
          | none => exact Or.inl rfl
          | some z =>
            have := hf z hfz
            refine Or.inr ?_
            unfold fI
            simp only
            rw [zI_small this]; exact this
        · rw [if_neg h2]; exact Or.inr (by decide)
theorem X7_solveVotes_ok (hN : 40000 ≤ N) (hG : GD K P S W T) {cs ct cw : Nat → Int32} (hs3 : ∀ q, q < 6 → cs q = nI (S q)) (hw4 : ∀ a q, a < 8 → q < 6 → cw (a * 6 + q) = nI (W a q)) (ht5 : ∀ g a, g < 4 → a < 8 → ct (g * 8 + a) = oI (T g a)) {g : Nat} (hg : g < 4) {rz : Int} {fz : Option Int} (hr : smallZ rz) (hf : ∀ z, fz = some z → smallZ z) {c_aimed_askers : Int32} {c_aimed_places : Int32} {c_aimed_seatBits : Int32} {c_aimed_entries : Int32} {c_aimed_best : Nat → Int32} {c_aimed_clipAll : Nat → Int32} {c_aimed_clipToOne : Nat → Int32} {c_aimed_clipToTwo : Nat → Int32} {c_aimed_firstOf : Nat → Int32} {c_aimed_gains : Nat → Int32} {c_aimed_left : Nat → Int32} {c_aimed_next : Nat → Int32} {c_aimed_solvedGains : Nat → Int32} {c_aimed_ways : Nat → Int32} {c_all_slots : Nat → Int32} (hv : SV c_aimed_askers c_aimed_places c_aimed_seatBits c_aimed_best c_aimed_next c_aimed_solvedGains c_aimed_ways) :
    ∃ ce' best' clA' clO' clT' fo' g' left' next' sg' ways' slots', f_X7_solveVotes N (nI K) (nI P) cs ct cw c_aimed_askers c_aimed_places c_aimed_seatBits c_aimed_entries c_aimed_best c_aimed_clipAll c_aimed_clipToOne c_aimed_clipToTwo c_aimed_firstOf c_aimed_gains c_aimed_left c_aimed_next c_aimed_solvedGains c_aimed_ways c_all_slots (nI g) (zI rz) (fI fz) = some (nI K, nI P, nI (e4 S P), ce', best', clA', clO', clT', fo', g', left', next', sg', ways', slots') ∧ RowsAre K P g' (vRow W T g rz fz) ∧ GB K P g' ∧ SameG K P g' sg' ∧ Ent K P g' best' ways' next' K 0 0 S := by
  have hK := hG.K8
  have hP := hG.P6
  unfold f_X7_solveVotes
  obtain ⟨g', g1, g2⟩ := sv_3 (cs := cs) (rise := zI rz) (fall := fI fz) hN hG hw4 ht5 (c_aimed_askers := c_aimed_askers) (c_aimed_places := c_aimed_places) (c_aimed_seatBits := c_aimed_seatBits) (c_aimed_entries := c_aimed_entries) (c_aimed_best := c_aimed_best) (c_aimed_clipAll := c_aimed_clipAll) (c_aimed_clipToOne := c_aimed_clipToOne) (c_aimed_clipToTwo := c_aimed_clipToTwo) (c_aimed_firstOf := c_aimed_firstOf) (c_aimed_left := c_aimed_left) (c_aimed_next := c_aimed_next) (c_aimed_solvedGains := c_aimed_solvedGains) (c_aimed_ways := c_aimed_ways) (c_all_slots := c_all_slots) hg N 0 c_aimed_gains (Nat.zero_le _) (by omega) Fil_0
  obtain ⟨r1, r2⟩ := vVote_rows hr hf g1
  obtain ⟨ce', best', clA', clO', clT', fo', left', next', slots', sg', ways', s1, s2, s3⟩ := solve_ok hN hK hP hG.S3 (fun q hq => hG.S0 hq) hs3 r2 hv c_aimed_entries c_aimed_clipAll c_aimed_clipToOne c_aimed_clipToTwo c_aimed_firstOf c_aimed_left c_all_slots
  rw [show (0 : Int32) = nI 0 from rfl, g2, s1, bd]
  exact ⟨ce', best', clA', clO', clT', fo', g', left', next', sg', ways', slots', rfl, r1, r2, s2, s3⟩
/-! the reference's costs -/
def vCost (W T : Nat → Nat → Nat) (g : Nat) (nb : Bool) (a o : Nat) : Int64 := if 7 < wo W a o then zL NV else if wo W a o < wo W a (T g a) then -1 else if wo W a (T g a) < wo W a o then (if nb then zL NV else 1) else 0
/-- costs are filled up to asker a, option o -/
def FilL (P : Nat) (val : Nat → Nat → Int64) (a o : Nat) (g : Nat → Int64) : Prop := ∀ b c, c ≤ P → (b < a ∨ (b = a ∧ c < o)) → g (b * 7 + c) = val b c
theorem FilL_upd (hP : P ≤ 6) {val : Nat → Nat → Int64} {a o : Nat} {g : Nat → Int64} (h : FilL P val a o g) (ho : o ≤ P) {x : Int64} (hx : x = val a o) : FilL P val a (o + 1) (vp_updL g (a * 7 + o) x) := by
  intro b c hc hb
  by_cases e : b = a ∧ c = o
  · rw [e.1, e.2, pk_uLs, hx]
  · rw [pk_uLn (by omega)]
    exact h b c hc (by omega)
theorem FilL_next {val : Nat → Nat → Int64} {a : Nat} {g : Nat → Int64} (h : FilL P val a (P + 1) g) : FilL P val (a + 1) 0 g := by
  intro b c hc hb
  exact h b c hc (by omega)
theorem FilL_0 {val : Nat → Nat → Int64} {g : Nat → Int64} : FilL P val 0 0 g := by
  intro b c hc hb
  omega
def bI (b : Bool) : Int32 := if b then 1 else 0
theorem fb_31 (hP : P ≤ 6) (hW : ∀ a q, W a q ≤ 6) {ms mt mw : Nat → Int32} (hw4 : ∀ a q, a < 8 → q < 6 → mw (a * 6 + q) = nI (W a q)) {c_full : Int32} {c_found : (Nat → Int32)} {c_least : (Nat → Int64)} {c_weight : (Nat → Int32)} {g : Nat} {nb : Bool} {x1 : Int32} {a : Nat} (ha : a < 8) (k2 : Int32 → (Nat → Int64) → (Nat → Int32) → (Nat → Int64) → (Nat → Int32) → Int32 → Int32 → Int32 → Option (Int32 × Int32 × (Nat → Int64) × (Nat → Int32) × (Nat → Int64) × (Nat → Int32))) :
    ∀ (n o : Nat) (c_cost : Nat → Int64), o ≤ P + 1 → P + 1 - o < n → FilL P (vCost W T g nb) a o c_cost → ∃ c', FilL P (vCost W T g nb) (a + 1) 0 c' ∧
      f_X8_findBeater_31 N (nI K) (nI P) ms mt mw k2 n c_full c_cost c_found c_least c_weight x1 (bI nb) (nI a) (nI (wo W a (T g a))) (nI o) = k2 c_full c' c_found c_least c_weight x1 (bI nb) (nI (a + 1)) := by
  intro n
  induction n with
  | zero => intro o g h1 h2; omega
  | succ n ih =>
    intro o gg ho hn hf
    rw [f_X8_findBeater_31]
    by_cases h : P < o
    · have : o = P + 1 := by omega
      subst this
      rw [if_pos (nI_lt h (by omega)), nI_1]
      exact ⟨gg, FilL_next hf, rfl⟩
    · have h8 := wo_le W hW a o
      have h8t := wo_le W hW a (T g a)
      have hstep : ∀ x, x = vCost W T g nb a o → ∃ c', FilL P (vCost W T g nb) (a + 1) 0 c' ∧
          f_X8_findBeater_109 N (nI K) (nI P) ms mt mw (f_X8_findBeater_31 N (nI K) (nI P) ms mt mw k2 n) c_full gg c_found c_least c_weight x1 (bI nb) (nI a) (nI (wo W a (T g a))) (nI o) (7 * nI a + nI o) x = k2 c_full c' c_found c_least c_weight x1 (bI nb) (nI (a + 1)) := by
        intro x hx
        unfold f_X8_findBeater_109
        rw [ix7', wrL_n _ _ (by omega) (by decide), bd, nI_1]
        exact ih (o + 1) _ (by omega) (by omega) (FilL_upd hP hf (by omega) hx)
      rw [if_neg (nI_nlt (by omega) (by omega)), X8_worthOf_ok N hW hw4 ha (by omega), bd]
      simp (disch := omega) only [q_7lt]
      by_cases h7 : 7 < wo W a o
      · rw [if_pos h7]
        exact hstep (zL NV) (by unfold vCost; rw [if_pos h7])
      · rw [if_neg h7]
        have h84 : (¬ wo W a (T g a) < wo W a o ∨ nb = false) → ∃ c', FilL P (vCost W T g nb) (a + 1) 0 c' ∧
          f_X8_findBeater_84 N (nI K) (nI P) ms mt mw (f_X8_findBeater_31 N (nI K) (nI P) ms mt mw k2 n) c_full gg c_found c_least c_weight x1 (bI nb) (nI a) (nI (wo W a (T g a))) (nI o) (nI (wo W a o)) (7 * nI a + nI o) = k2 c_full c' c_found c_least c_weight x1 (bI nb) (nI (a + 1)) := by
          intro hc
          unfold f_X8_findBeater_84
          simp (disch := omega) only [q_le]
          by_cases h1 : wo W a (T g a) ≤ wo W a o
          · rw [if_pos h1]
            by_cases h2 : wo W a o ≤ wo W a (T g a)
            · rw [if_pos h2]
              exact hstep 0 (by unfold vCost; rw [if_neg h7, if_neg (by omega), if_neg (by omega)])
            · rw [if_neg h2]
              refine hstep 1 ?_
              unfold vCost
              rw [if_neg h7, if_neg (by omega), if_pos (by omega)]
              rcases hc with hc | hc
              · omega
              · rw [hc]; rfl
          · rw [if_neg h1]
            exact hstep (-1) (by unfold vCost; rw [if_neg h7, if_pos (by omega)])
        cases nb with
        | false =>
          rw [if_pos (show bI false = 0 from rfl)]
          exact h84 (Or.inr rfl)
        | true =>
          rw [if_neg (show ¬ bI true = 0 from one_ne)]
          simp (disch := omega) only [q_le]
          by_cases h1 : wo W a o ≤ wo W a (T g a)
          · rw [if_pos h1]
            exact h84 (Or.inl (by omega))
          · rw [if_neg h1]
            unfold f_X8_findBeater_78
            exact hstep (zL NV) (by unfold vCost; rw [if_neg h7, if_neg (by omega), if_pos (by omega)]; rfl)
theorem fb_2 (hN : 40000 ≤ N) (hG : GD K P S W T) {ms mt mw : Nat → Int32} (hw4 : ∀ a q, a < 8 → q < 6 → mw (a * 6 + q) = nI (W a q)) (ht5 : ∀ g a, g < 4 → a < 8 → mt (g * 8 + a) = nI (T g a)) {c_full : Int32} {c_found : (Nat → Int32)} {c_least : (Nat → Int64)} {c_weight : (Nat → Int32)} {g : Nat} (hg : g < 4) {nb : Bool} :
    ∀ (n a : Nat) (c_cost : Nat → Int64), a ≤ K → K - a < n → FilL P (vCost W T g nb) a 0 c_cost → ∃ c', FilL P (vCost W T g nb) K 0 c' ∧
      f_X8_findBeater_2 N (nI K) (nI P) ms mt mw n c_full c_cost c_found c_least c_weight (nI g) (bI nb) (nI a) = (f_X8_findLeast N (nI K) (nI P) c' ms mw c_full c_found c_least c_weight).bind fun (r2, o3, o4, o5, o6) => some ((-r2).toInt32, o3, c', o4, o5, o6) := by
  have hK := hG.K8
  have hP := hG.P6
  intro n
  induction n with
  | zero => intro a g h1 h2; omega
  | succ n ih =>
    intro a gg ha hn hf
    rw [f_X8_findBeater_2]
    by_cases h : K ≤ a
    · have : a = K := by omega
      subst this
      rw [if_pos (nI_le (Nat.le_refl _) (by omega))]
      exact ⟨gg, hf, rfl⟩
    · rw [if_neg (nI_ge (by omega) (by omega)), ix8', rdI_n _ (by omega) (by decide), bd, ht5 g a hg (by omega), X8_worthOf_ok N hG.W6 hw4 (by omega) (hG.T6 g a), bd, show (0 : Int32) = nI 0 from rfl]
      obtain ⟨c', h1, h2⟩ := fb_31 (N := N) (K := K) (ms := ms) (mt := mt) (T := T) (g := g) (nb := nb) (x1 := nI g) hP hG.W6 hw4 (c_full := c_full) (c_found := c_found) (c_least := c_least) (c_weight := c_weight) (show a < 8 by omega) (f_X8_findBeater_2 N (nI K) (nI P) ms mt mw n) N 0 gg (Nat.zero_le _) (by omega) hf
      rw [h2]
      exact ih (a + 1) c' (by omega) (by omega) h1
theorem zL_i {z : Int} (h : b31 z) : (zL z).toInt32 = zI z := by
  rw [← Int32.toInt_inj, Int64.toInt_toInt32, zL_toInt ⟨by have := h.1; omega, by have := h.2; omega⟩, zI_toInt h]
  exact fb_bmod h.1 h.2
theorem wo_wish {a o q : Nat} (hW : ∀ a q, W a q ≤ 6) (h : ¬ 7 < wo W a o) (ho : o = q + 1) : 0 < W a q := by
  subst ho
  rcases Nat.eq_zero_or_pos (W a q) with z | z
  · exact absurd (show 7 < wo W a (q + 1) by unfold wo; simp only; rw [if_pos z]; decide) h
  · exact z
theorem vCost_ok (hW : ∀ a q, W a q ≤ 6) {g : Nat} {nb : Bool} {cost : Nat → Int64} (h : FilL P (vCost W T g nb) K 0 cost) : CostOk K P W cost ∧ ∀ a o, a < K → o ≤ P → cRow cost a o = vRow W T g 1 (if nb then none else some (-1)) a o := by
  have e : ∀ a o, a < K → o ≤ P → cost (a * 7 + o) = vCost W T g nb a o := fun a o ha ho => h a o ho (Or.inl ha)
  constructor
  · intro a o ha ho
    rw [e a o ha ho]
    unfold vCost
    by_cases hw : 7 < wo W a o
    · rw [if_pos hw]; exact Or.inl rfl
    · rw [if_neg hw]
      have hq : ∀ q, o = q + 1 → 0 < W a q := fun q hq => wo_wish hW hw hq
      by_cases h1 : wo W a o < wo W a (T g a)
      · rw [if_pos h1]; exact Or.inr ⟨by decide, by decide, hq⟩
      · rw [if_neg h1]
        by_cases h2 : wo W a (T g a) < wo W a o
        · rw [if_pos h2]
          cases nb with
          | true => exact Or.inl rfl
          | false => exact Or.inr ⟨by decide, by decide, hq⟩
        · rw [if_neg h2]; exact Or.inr ⟨by decide, by decide, hq⟩
  · intro a o ha ho
    unfold cRow
    rw [e a o ha ho]
    unfold vCost vRow
    by_cases hw : 7 < wo W a o
    · rw [if_pos hw, if_pos hw, if_pos rfl]
    · rw [if_neg hw, if_neg hw]
      by_cases h1 : wo W a o < wo W a (T g a)
      · rw [if_pos h1, if_pos h1, if_neg (by decide)]; rfl
      · rw [if_neg h1, if_neg h1]
        by_cases h2 : wo W a (T g a) < wo W a o
        · rw [if_pos h2, if_pos h2]
          cases nb with
          | true => rfl
          | false => rfl
        · rw [if_neg h2, if_neg h2, if_neg (by decide)]; rfl
/-- a giving, asker by asker -/
def tl (t : Nat → Nat) : Nat → Nat → List Nat
  | _, 0 => []
  | a, m + 1 => t a :: tl t (a + 1) m
def sI (r : Nat → Row) (t : Nat → Nat) : Nat → Nat → Int
  | _, 0 => 0
  | a, m + 1 => (r a (t a)).getD 0 + sI r t (a + 1) m
theorem gv_tl {r : Nat → Row} {t : Nat → Nat} (htP : ∀ a, t a ≤ P) (htS : ∀ q, q < P → had K t (q + 1) ≤ S q) : ∀ (m a : Nat), K = a + m → (∀ i, a ≤ i → i < K → r i (t i) ≠ none) → gv P (rf r a m) (lft S t a) (tl t a m) = some (sI r t a m)
  | 0, a, _, _ => rfl
  | m + 1, a, hk, h => by
    have h1 := gv_tl htP htS m (a + 1) (by omega) (fun i h1 h2 => h i (by omega) h2)
    have h2 := lft_tk (K := K) (P := P) (show a < K by omega) (htP a) htS
    rw [rf, tl, gv, if_pos (htP a)]
    cases hr : r a (t a) with
    | none => exact absurd hr (h a (Nat.le_refl _) (by omega))
    | some γ =>
      simp only
      rw [h2]
      simp only
      rw [h1, sI, hr]
      rfl
theorem sI_zero {r : Nat → Row} {t : Nat → Nat} : ∀ (m a : Nat), (∀ i, a ≤ i → i < a + m → r i (t i) = some 0) → sI r t a m = 0
  | 0, _, _ => rfl
  | m + 1, a, h => by
    rw [sI, h a (Nat.le_refl _) (by omega), sI_zero m (a + 1) (fun i h1 h2 => h i (by omega) (by omega))]
    rfl
/-- the told giving itself is among those weighed -/
theorem votes_some (hG : GD K P S W T) {g : Nat} {rz : Int} {fz : Option Int} : ∃ B M, bw P (rf (vRow W T g rz fz) 0 K) S = some (B, M) ∧ 0 ≤ B := by
  have hrow : ∀ i, vRow W T g rz fz i (T g i) = some 0 := by
    intro i
    unfold vRow
    have h7 : ¬ 7 < wo W i (T g i) := by
      cases ht : T g i with
      | zero => exact Nat.lt_irrefl 7
      | succ q =>
        have := hG.TW g i q ht
        have := hG.W6 i q
        unfold wo
        simp only
        rw [if_neg (by omega)]; omega
    rw [if_neg h7, if_neg (Nat.lt_irrefl _), if_neg (Nat.lt_irrefl _)]
  have h := gv_tl (K := K) (r := vRow W T g rz fz) (hG.TP g) (hG.TS g) K 0 (by omega) (fun i _ _ => by rw [hrow i]; intro z; cases z)
  rw [lft_0, sI_zero K 0 (fun i _ _ => hrow i)] at h
  obtain ⟨B, M, h1, h2⟩ := gv_le P _ _ _ _ h
  exact ⟨B, M, h1, h2⟩
theorem X8_findBeater_ok (hN : 40000 ≤ N) (hG : GD K P S W T) {ms mt mw : Nat → Int32} (hs3 : ∀ q, q < 6 → ms q = nI (S q)) (hw4 : ∀ a q, a < 8 → q < 6 → mw (a * 6 + q) = nI (W a q)) (ht5 : ∀ g a, g < 4 → a < 8 → mt (g * 8 + a) = nI (T g a)) {g : Nat} (hg : g < 4) {nb : Bool} {B : Int} {M : Nat} (hb : bw P (rf (vRow W T g 1 (if nb then none else some (-1))) 0 K) S = some (B, M)) (hB : b31 B) {c_full : Int32} {c_cost : Nat → Int64} {c_found : Nat → Int32} {c_least : Nat → Int64} {c_weight : Nat → Int32} :
    ∃ full' cost' found' least' weight', f_X8_findBeater N (nI K) (nI P) ms mt mw c_full c_cost c_found c_least c_weight (nI g) (bI nb) = some (zI B, full', cost', found', least', weight') ∧ ∀ a, a < K → found' a = nI (nthT P (rf (vRow W T g 1 (if nb then none else some (-1))) 0 K) S 0 a) := by
  have hK := hG.K8
  have hP := hG.P6
  unfold f_X8_findBeater
  obtain ⟨c', g1, g2⟩ := fb_2 (ms := ms) (nb := nb) hN hG hw4 ht5 (c_full := c_full) (c_found := c_found) (c_least := c_least) (c_weight := c_weight) hg N 0 c_cost (Nat.zero_le _) (by omega) FilL_0
  obtain ⟨r1, r2⟩ := vCost_ok hG.W6 g1
  have hb' : bw P (cF K P c' 0) S = some (B, M) := by
    rw [← hb]
    unfold cF
    exact bw_cong P _ _ _ _ _ (fun i o h1 h2 h3 => r2 i o (by omega) h3)
  obtain ⟨found', least', weight', f1, f2⟩ := X8_findLeast_ok (N := N) r1 hK hP hs3 (fun q _ => hG.S3 q) hG.W6 hw4 hN hb' c_full c_found c_weight c_least
  rw [show (0 : Int32) = nI 0 from rfl, g2, f1, bd]
  refine ⟨nI (wgt S P - 1), c', found', least', weight', ?_, fun a ha => ?_⟩
  · show some ((-zL (-B)).toInt32, _) = _
    rw [zL_neg, Int.neg_neg, zL_i hB]
  · rw [f2 a ha]
    unfold nthT cF
    rw [nth_cong P _ (vRow W T g 1 (if nb then none else some (-1))) (K - 0) 0 S S 0 (fun i o h1 h2 h3 => r2 i o (by omega) h3) (fun _ _ => rfl)]
    rfl
end VOTES
