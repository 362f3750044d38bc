/-! givings, givingAt, placeOf -/
theorem q_leo {a o : Nat} (ha : a < 2 ^ 30) (ho : o < 2 ^ 30) : (nI a ≤ oI o) = (a + 1 ≤ o) := by
  cases o with
  | zero =>
    rw [oI_0]
    refine propext ⟨fun h => ?_, fun h => by omega⟩
    rw [Int32.le_iff_toInt_le, nI_toInt (by omega)] at h
    have : (-1 : Int32).toInt = -1 := by decide
    omega
  | succ q => rw [oI_s, q_le (by omega) (by omega)]; exact propext ⟨fun h => by omega, fun h => by omega⟩
theorem oI_next (o : Nat) : oI o + 1 = oI (o + 1) := by rw [oI_1, oI_s]
theorem ix7o (a o : Nat) : nI a * 7 + oI o + 1 = nI (a * 7 + o) := by
  rw [Int32.add_assoc, oI_1, ix7]
theorem setGain_ok {N : Nat} (g : Nat → Int32) {a o : Nat} (ha : a < 8) (ho : o ≤ 6) (x : Int32) : f_X4_setGain N g (nI a) (oI o) x = some (upd g (a * 7 + o) x) := by
  unfold f_X4_setGain
  rw [ix7o, wrI_n _ _ (by omega) (by decide), bd]
/-- a board of gains is filled up to asker a, option o -/
def Fil (P : Nat) (val : Nat → Nat → Int32) (a o : Nat) (g : Nat → Int32) : Prop := ∀ b c, c ≤ P → (b < a ∨ (b = a ∧ c < o)) → g (b * 7 + c) = val b c
theorem Fil_upd {P : Nat} (hP : P ≤ 6) {val : Nat → Nat → Int32} {a o : Nat} {g : Nat → Int32} (h : Fil P val a o g) (ho : o ≤ P) {x : Int32} (hx : x = val a o) : Fil P val a (o + 1) (upd g (a * 7 + o) x) := by
  intro b c hc hb
  by_cases e : b = a ∧ c = o
  · rw [e.1, e.2, pk_us, hx]
  · rw [pk_un (by omega)]
    exact h b c hc (by omega)
theorem Fil_next {P : Nat} {val : Nat → Nat → Int32} {a : Nat} {g : Nat → Int32} (h : Fil P val a (P + 1) g) : Fil P val (a + 1) 0 g := by
  intro b c hc hb
  exact h b c hc (by omega)
theorem Fil_0 {P : Nat} {val : Nat → Nat → Int32} {g : Nat → Int32} : Fil P val 0 0 g := by
  intro b c hc hb
  omega
/-- gains whose rows are known -/
def RowsAre (K P : Nat) (g : Nat → Int32) (r : Nat → Row) : Prop := ∀ a o, a < K → o ≤ P → gRow g a o = r a o
theorem gF_rows {K P : Nat} {g : Nat → Int32} {r : Nat → Row} (h : RowsAre K P g r) (σ : Sv) {a : Nat} (ha : a ≤ K) : bw P (gF K g a) σ = bw P (rf r a (K - a)) σ := by
  unfold gF
  exact bw_cong P _ _ _ _ _ (fun i o h1 h2 h3 => h i o (by omega) h3)
theorem nthT_rows {K P : Nat} {g : Nat → Int32} {r : Nat → Row} (h : RowsAre K P g r) (σ : Sv) (i : Nat) : nthT P (gF K g 0) σ i = nthT P (rf r 0 K) σ i := by
  unfold nthT gF
  rw [nth_cong P _ r (K - 0) 0 σ σ i (fun i o h1 h2 h3 => h i o (by omega) h3) (fun _ _ => rfl)]
  rfl
section ALL
variable {N K P : Nat} {S : Nat → Nat} {W T : Nat → Nat → Nat}
def vAll (W : Nat → Nat → Nat) (a o : Nat) : Int32 := if 7 < wo W a o then RUL else 0
theorem zRow_wo (hW : ∀ a q, W a q ≤ 6) (a o : Nat) : zRow W a o = if 7 < wo W a o then none else some 0 := by
  cases o with
  | zero => rfl
  | succ q =>
    have := hW a q
    by_cases h : W a q = 0
    · have e : wo W a (q + 1) = 8 := by unfold wo; simp only; rw [if_pos h]
      rw [e]
      unfold zRow
      simp only
      rw [if_neg (by omega), if_pos (by omega)]
    · have e : wo W a (q + 1) = W a q := by unfold wo; simp only; rw [if_neg h]
      rw [e]
      unfold zRow
      simp only
      rw [if_pos (by omega), if_neg (by omega)]
theorem sa_15 (hP : P ≤ 6) (hW : ∀ a q, W a q ≤ 6) {cs cw : Nat → Int32} (w4 : ∀ a q, a < 8 → q < 6 → cw (a * 6 + q) = nI (W a q)) {c_all_askers : Int32} {c_all_places : Int32} {c_all_seatBits : Int32} {c_all_entries : Int32} {c_all_best : (Nat → Int32)} {c_all_clipAll : (Nat → Int32)} {c_all_clipToOne : (Nat → Int32)} {c_all_clipToTwo : (Nat → Int32)} {c_all_firstOf : (Nat → Int32)} {c_all_left : (Nat → Int32)} {c_all_next : (Nat → Int32)} {c_all_slots : (Nat → Int32)} {c_all_solvedGains : (Nat → Int32)} {c_all_ways : (Nat → Int32)} {a : Nat} (ha : a < 8) (k2 : Int32 → Int32 → Int32 → Int32 → (Nat → Int32) → (Nat → Int32) → (Nat → Int32) → (Nat → Int32) → (Nat → Int32) → (Nat → Int32) → (Nat → Int32) → (Nat → Int32) → (Nat → Int32) → (Nat → Int32) → (Nat → Int32) → Int32 → Option (Int32 × Int32 × Int32 × Int32 × (Nat → Int32) × (Nat → Int32) × (Nat → Int32) × (Nat → Int32) × (Nat → Int32) × (Nat → Int32) × (Nat → Int32) × (Nat → Int32) × (Nat → Int32) × (Nat → Int32) × (Nat → Int32))) :
    ∀ (n o : Nat) (c_all_gains : Nat → Int32), o ≤ P + 1 → P + 1 - o < n → Fil P (vAll W) a o c_all_gains → ∃ g', Fil P (vAll W) (a + 1) 0 g' ∧
      f_X7_solveAll_15 N (nI K) (nI P) cs cw k2 n c_all_askers c_all_places c_all_seatBits c_all_entries c_all_best c_all_clipAll c_all_clipToOne c_all_clipToTwo c_all_firstOf c_all_gains c_all_left c_all_next c_all_slots c_all_solvedGains c_all_ways (nI a) (oI o) = k2 c_all_askers c_all_places c_all_seatBits c_all_entries c_all_best c_all_clipAll c_all_clipToOne c_all_clipToTwo c_all_firstOf g' c_all_left c_all_next c_all_slots c_all_solvedGains c_all_ways (nI (a + 1)) := by
  intro n
  induction n with
  | zero => intro o g h1 h2; omega
  | succ n ih =>
    intro o g ho hn hf
    rw [f_X7_solveAll_15]
    by_cases h : P + 1 ≤ o
    · have : o = P + 1 := by omega
      subst this
      simp (disch := omega) only [q_leo, if_pos h, nI_1]
      exact ⟨g, Fil_next hf, rfl⟩
    · simp (disch := omega) only [q_leo, if_neg h, X0_isOpen_ok hW w4 ha (show o ≤ 6 by omega), bd]
      by_cases hw : 7 < wo W a o
      · rw [if_pos hw, if_pos rfl]
        unfold f_X7_solveAll_50
        rw [setGain_ok g ha (by omega), bd, oI_next]
        exact ih (o + 1) _ (by omega) (by omega) (Fil_upd hP hf (by omega) (by unfold vAll; rw [if_pos hw]; rfl))
      · rw [if_neg hw, if_neg one_ne]
        unfold f_X7_solveAll_50
        rw [setGain_ok g ha (by omega), bd, oI_next]
        exact ih (o + 1) _ (by omega) (by omega) (Fil_upd hP hf (by omega) (by unfold vAll; rw [if_neg hw]))
theorem sa_2 (hN : 40000 ≤ N) (hK : K ≤ 8) (hP : P ≤ 6) (hW : ∀ a q, W a q ≤ 6) {cs cw : Nat → Int32} (w4 : ∀ a q, a < 8 → q < 6 → cw (a * 6 + q) = nI (W a q)) {c_all_askers : Int32} {c_all_places : Int32} {c_all_seatBits : Int32} {c_all_entries : Int32} {c_all_best : (Nat → Int32)} {c_all_clipAll : (Nat → Int32)} {c_all_clipToOne : (Nat → Int32)} {c_all_clipToTwo : (Nat → Int32)} {c_all_firstOf : (Nat → Int32)} {c_all_left : (Nat → Int32)} {c_all_next : (Nat → Int32)} {c_all_slots : (Nat → Int32)} {c_all_solvedGains : (Nat → Int32)} {c_all_ways : (Nat → Int32)} :
    ∀ (n a : Nat) (c_all_gains : Nat → Int32), a ≤ K → K - a < n → Fil P (vAll W) a 0 c_all_gains → ∃ g', Fil P (vAll W) K 0 g' ∧
      f_X7_solveAll_2 N (nI K) (nI P) cs cw n c_all_askers c_all_places c_all_seatBits c_all_entries c_all_best c_all_clipAll c_all_clipToOne c_all_clipToTwo c_all_firstOf c_all_gains c_all_left c_all_next c_all_slots c_all_solvedGains c_all_ways (nI a) = (f_X4_solve N (nI K) (nI P) g' cs c_all_askers c_all_places c_all_seatBits c_all_entries c_all_best c_all_clipAll c_all_clipToOne c_all_clipToTwo c_all_firstOf c_all_left c_all_next c_all_slots c_all_solvedGains c_all_ways).bind fun (o2, o3, o4, o5, o6, o7, o8, o9, o10, o11, o12, o13, o14, o15) => some (o2, o3, o4, o5, o6, o7, o8, o9, o10, g', o11, o12, o13, o14, o15) := by
  intro n
  induction n with
  | zero => intro a g h1 h2; omega
  | succ n ih =>
    intro a g ha hn hf
    rw [f_X7_solveAll_2]
    by_cases h : K ≤ a
    · have : a = K := by omega
      subst this
      rw [if_pos (nI_le (Nat.le_refl _) (by omega))]
      exact ⟨g, hf, rfl⟩
    · rw [if_neg (nI_ge (by omega) (by omega)), ← oI_0]
      obtain ⟨g', h1, h2⟩ := sa_15 (N := N) (K := K) (cs := cs) hP hW w4 (c_all_askers := c_all_askers) (c_all_places := c_all_places) (c_all_seatBits := c_all_seatBits) (c_all_entries := c_all_entries) (c_all_best := c_all_best) (c_all_clipAll := c_all_clipAll) (c_all_clipToOne := c_all_clipToOne) (c_all_clipToTwo := c_all_clipToTwo) (c_all_firstOf := c_all_firstOf) (c_all_left := c_all_left) (c_all_next := c_all_next) (c_all_slots := c_all_slots) (c_all_solvedGains := c_all_solvedGains) (c_all_ways := c_all_ways) (show a < 8 by omega) (f_X7_solveAll_2 N (nI K) (nI P) cs cw n) N 0 g (Nat.zero_le _) (by omega) hf
      rw [h2]
      exact ih (a + 1) g' (by omega) (by omega) h1
theorem vAll_rows (hW : ∀ a q, W a q ≤ 6) {g : Nat → Int32} (h : Fil P (vAll W) K 0 g) : RowsAre K P g (zRow W) ∧ GB K P g := by
  have e : ∀ a o, a < K → o ≤ P → g (a * 7 + o) = if 7 < wo W a o then RUL else 0 := fun a o ha ho => h a o ho (Or.inl ha)
  constructor
  · intro a o ha ho
    rw [zRow_wo hW]
    unfold gRow
    rw [e a o ha ho]
    by_cases hw : 7 < wo W a o
    · rw [if_pos hw, if_pos rfl, if_pos hw]
    · rw [if_neg hw, if_neg (by decide), if_neg hw]; rfl
  · intro a o ha ho
    rw [e a o ha ho]
    by_cases hw : 7 < wo W a o
    · exact Or.inl (by rw [if_pos hw])
    · exact Or.inr (by rw [if_neg hw]; decide)
theorem X7_solveAll_ok (hN : 40000 ≤ N) (hG : GD K P S W T) {cs cw : Nat → Int32} (s3h : ∀ q, q < 6 → cs q = nI (S q)) (w4 : ∀ a q, a < 8 → q < 6 → cw (a * 6 + q) = nI (W a q)) {c_all_askers : Int32} {c_all_places : Int32} {c_all_seatBits : Int32} {c_all_entries : Int32} {c_all_best : Nat → Int32} {c_all_clipAll : Nat → Int32} {c_all_clipToOne : Nat → Int32} {c_all_clipToTwo : Nat → Int32} {c_all_firstOf : Nat → Int32} {c_all_gains : Nat → Int32} {c_all_left : Nat → Int32} {c_all_next : Nat → Int32} {c_all_slots : Nat → Int32} {c_all_solvedGains : Nat → Int32} {c_all_ways : Nat → Int32} (hv : SV c_all_askers c_all_places c_all_seatBits c_all_best c_all_next c_all_solvedGains c_all_ways) :
    ∃ ce' best' clA' clO' clT' fo' g' left' next' slots' sg' ways', f_X7_solveAll N (nI K) (nI P) cs cw c_all_askers c_all_places c_all_seatBits c_all_entries c_all_best c_all_clipAll c_all_clipToOne c_all_clipToTwo c_all_firstOf c_all_gains c_all_left c_all_next c_all_slots c_all_solvedGains c_all_ways = some (nI K, nI P, nI (e4 S P), ce', best', clA', clO', clT', fo', g', left', next', slots', sg', ways') ∧ RowsAre K P g' (zRow W) ∧ GB K P g' ∧ SameG K P g' sg' ∧ Ent K P g' best' ways' next' K 0 0 S := by
  have hK := hG.K8
  have hP := hG.P6
  unfold f_X7_solveAll
  obtain ⟨g', g1, g2⟩ := sa_2 (cs := cs) (c_all_askers := c_all_askers) (c_all_places := c_all_places) (c_all_seatBits := c_all_seatBits) (c_all_entries := c_all_entries) (c_all_best := c_all_best) (c_all_clipAll := c_all_clipAll) (c_all_clipToOne := c_all_clipToOne) (c_all_clipToTwo := c_all_clipToTwo) (c_all_firstOf := c_all_firstOf) (c_all_left := c_all_left) (c_all_next := c_all_next) (c_all_slots := c_all_slots) (c_all_solvedGains := c_all_solvedGains) (c_all_ways := c_all_ways) hN hK hP hG.W6 w4 N 0 c_all_gains (Nat.zero_le _) (by omega) Fil_0
  obtain ⟨r1, r2⟩ := vAll_rows hG.W6 g1
  obtain ⟨ce', best', clA', clO', clT', fo', left', next', slots', sg', ways', s1, s2, s3⟩ := solve_ok hN hK hP hG.S3 (fun q hq => hG.S0 hq) s3h r2 hv c_all_entries c_all_clipAll c_all_clipToOne c_all_clipToTwo c_all_firstOf c_all_left c_all_slots
  rw [show (0 : Int32) = nI 0 from rfl, g2, s1, bd]
  exact ⟨ce', best', clA', clO', clT', fo', g', left', next', slots', sg', ways', rfl, r1, r2, s2, s3⟩
end ALL
