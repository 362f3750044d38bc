/-! findByWorth and findBy -/
section BYW
variable {N K P : Nat} {S : Nat → Nat} {W T : Nat → Nat → Nat}
/-- the class's gains and the reference's negated costs, by worth -/
def gW (what v : Nat) : Int := if what = 4 then fFirst 16 v else if what = 5 then fFair 16 v else if v ≤ 6 then -(v : Int) else -1000
def rW (what v : Nat) : Int := if what = 4 then fFirst 9 v else if what = 5 then fFair 9 v else if v ≤ 6 then -(v : Int) else -1000
def tabG (what : Nat) : Nat → Int32 := if what = 4 then ro_FIRSTS_GAINS else if what = 5 then ro_FAIREST_GAINS else ro_MOST_GAINS
theorem tabG_ok : ∀ (what : Fin 3) (v : Fin 7), tabG (what.val + 4) (v.val + 1) = zI (gW (what.val + 4) (v.val + 1)) := by decide
theorem gW_small : ∀ (what : Fin 3) (v : Fin 7), (-16777216 ≤ gW (what.val + 4) (v.val + 1) ∧ gW (what.val + 4) (v.val + 1) ≤ 16777216) ∧ -BB ≤ -rW (what.val + 4) (v.val + 1) ∧ -rW (what.val + 4) (v.val + 1) ≤ BB := by decide
def vByW (W : Nat → Nat → Nat) (G : Nat → Int32) (a o : Nat) : Int32 := if 7 < wo W a o then RUL else G (wo W a o)
theorem bw_15 (hP : P ≤ 6) (hW : ∀ a q, W a q ≤ 6) {cs cw : Nat → Int32} {G : Nat → Int32} (hw4 : ∀ a q, a < 8 → q < 6 → cw (a * 6 + q) = nI (W a q)) {c_aimed_askers : Int32} {c_aimed_places : Int32} {c_aimed_seatBits : Int32} {c_aimed_entries : Int32} {c_row : (Nat → Int32)} {c_aimed_best : (Nat → Int32)} {c_aimed_clipAll : (Nat → Int32)} {c_aimed_clipToOne : (Nat → Int32)} {c_aimed_clipToTwo : (Nat → Int32)} {c_aimed_firstOf : (Nat → Int32)} {c_aimed_left : (Nat → Int32)} {c_aimed_next : (Nat → Int32)} {c_aimed_solvedGains : (Nat → Int32)} {c_aimed_ways : (Nat → Int32)} {c_all_slots : (Nat → Int32)} {a : Nat} (ha : a < 8) (k2 : Int32 → Int32 → Int32 → Int32 → (Nat → Int32) → (Nat → Int32) → (Nat → Int32) → (Nat → Int32) → (Nat → Int32) → (Nat → Int32) → (Nat → Int32) → (Nat → Int32) → (Nat → Int32) → (Nat → Int32) → (Nat → Int32) → (Nat → Int32) → Int32 → Option (Int32 × Int32 × Int32 × Int32 × (Nat → Int32) × (Nat → Int32) × (Nat → Int32) × (Nat → Int32) × (Nat → Int32) × (Nat → Int32) × (Nat → Int32) × (Nat → Int32) × (Nat → Int32) × (Nat → Int32) × (Nat → Int32) × (Nat → Int32))) :
    ∀ (n o : Nat) (c_aimed_gains : Nat → Int32), o ≤ P + 1 → P + 1 - o < n → Fil P (vByW W G) a o c_aimed_gains → ∃ g', Fil P (vByW W G) (a + 1) 0 g' ∧
      f_X7_findByWorth_15 N (nI K) (nI P) cs cw G k2 n c_aimed_askers c_aimed_places c_aimed_seatBits c_aimed_entries c_row c_aimed_best c_aimed_clipAll c_aimed_clipToOne c_aimed_clipToTwo c_aimed_firstOf c_aimed_gains c_aimed_left c_aimed_next c_aimed_solvedGains c_aimed_ways c_all_slots (nI a) (oI o) = k2 c_aimed_askers c_aimed_places c_aimed_seatBits c_aimed_entries c_row c_aimed_best c_aimed_clipAll c_aimed_clipToOne c_aimed_clipToTwo c_aimed_firstOf g' c_aimed_left c_aimed_next c_aimed_solvedGains c_aimed_ways c_all_slots (nI (a + 1)) := by
  intro n
  induction n with
  | zero => intro o g h1 h2; omega
  | succ n ih =>
    intro o gg ho hn hf
    rw [f_X7_findByWorth_15]
    by_cases h : P + 1 ≤ o
    · have : o = P + 1 := by omega
      subst this
      simp (disch := omega) only [q_leo, if_pos h, nI_1]
      exact ⟨gg, Fil_next hf, rfl⟩
    · have h8 := wo_le W hW a o
      simp (disch := omega) only [q_leo, if_neg h, X0_isOpen_ok hW hw4 ha (show o ≤ 6 by omega), bd]
      by_cases hw : 7 < wo W a o
      · rw [if_pos hw, if_pos rfl]
        unfold f_X7_findByWorth_60
        rw [setGain_ok gg ha (by omega), bd, oI_next]
        exact ih (o + 1) _ (by omega) (by omega) (Fil_upd hP hf (by omega) (by unfold vByW; rw [if_pos hw]; rfl))
      · rw [if_neg hw, if_neg one_ne, X0_worthOf_ok N hW hw4 ha (by omega), bd, rdI_n _ (by omega) (by decide), bd]
        unfold f_X7_findByWorth_60
        rw [setGain_ok gg ha (by omega), bd, oI_next]
        exact ih (o + 1) _ (by omega) (by omega) (Fil_upd hP hf (by omega) (by unfold vByW; rw [if_neg hw]))
theorem bw_2 (hN : 40000 ≤ N) (hK : K ≤ 8) (hP : P ≤ 6) (hW : ∀ a q, W a q ≤ 6) {cs cw : Nat → Int32} {G : Nat → Int32} (hw4 : ∀ a q, a < 8 → q < 6 → cw (a * 6 + q) = nI (W a q)) {c_aimed_askers : Int32} {c_aimed_places : Int32} {c_aimed_seatBits : Int32} {c_aimed_entries : Int32} {c_row : (Nat → Int32)} {c_aimed_best : (Nat → Int32)} {c_aimed_clipAll : (Nat → Int32)} {c_aimed_clipToOne : (Nat → Int32)} {c_aimed_clipToTwo : (Nat → Int32)} {c_aimed_firstOf : (Nat → Int32)} {c_aimed_left : (Nat → Int32)} {c_aimed_next : (Nat → Int32)} {c_aimed_solvedGains : (Nat → Int32)} {c_aimed_ways : (Nat → Int32)} {c_all_slots : (Nat → Int32)} :
    ∀ (n a : Nat) (c_aimed_gains : Nat → Int32), a ≤ K → K - a < n → Fil P (vByW W G) a 0 c_aimed_gains → ∃ g', Fil P (vByW W G) K 0 g' ∧
      f_X7_findByWorth_2 N (nI K) (nI P) cs cw G n c_aimed_askers c_aimed_places c_aimed_seatBits c_aimed_entries c_row c_aimed_best c_aimed_clipAll c_aimed_clipToOne c_aimed_clipToTwo c_aimed_firstOf c_aimed_gains c_aimed_left c_aimed_next c_aimed_solvedGains c_aimed_ways c_all_slots (nI a) = (f_X4_solve N (nI K) (nI P) g' cs c_aimed_askers c_aimed_places c_aimed_seatBits c_aimed_entries c_aimed_best c_aimed_clipAll c_aimed_clipToOne c_aimed_clipToTwo c_aimed_firstOf c_aimed_left c_aimed_next c_all_slots c_aimed_solvedGains c_aimed_ways).bind fun (o2, o3, o4, o5, o6, o7, o8, o9, o10, o11, o12, o13, o14, o15) =>
        (f_X4_pathTo N o2 o3 o6 o12 o14 o15 c_row 0).bind fun o17 => some (o2, o3, o4, o5, o17, o6, o7, o8, o9, o10, g', o11, o12, o14, o15, o13) := by
  intro n
  induction n with
  | zero => intro a g h1 h2; omega
  | succ n ih =>
    intro a gg ha hn hf
    rw [f_X7_findByWorth_2]
    by_cases h : K ≤ a
    · have : a = K := by omega
      subst this
      rw [if_pos (nI_le (Nat.le_refl _) (by omega))]
      exact ⟨gg, hf, rfl⟩
    · rw [if_neg (nI_ge (by omega) (by omega)), ← oI_0]
      obtain ⟨g', h1, h2⟩ := bw_15 (N := N) (K := K) (cs := cs) (G := G) hP hW hw4 (c_aimed_askers := c_aimed_askers) (c_aimed_places := c_aimed_places) (c_aimed_seatBits := c_aimed_seatBits) (c_aimed_entries := c_aimed_entries) (c_row := c_row) (c_aimed_best := c_aimed_best) (c_aimed_clipAll := c_aimed_clipAll) (c_aimed_clipToOne := c_aimed_clipToOne) (c_aimed_clipToTwo := c_aimed_clipToTwo) (c_aimed_firstOf := c_aimed_firstOf) (c_aimed_left := c_aimed_left) (c_aimed_next := c_aimed_next) (c_aimed_solvedGains := c_aimed_solvedGains) (c_aimed_ways := c_aimed_ways) (c_all_slots := c_all_slots) (show a < 8 by omega) (f_X7_findByWorth_2 N (nI K) (nI P) cs cw G n) N 0 gg (Nat.zero_le _) (by omega) hf
      rw [h2]
      exact ih (a + 1) g' (by omega) (by omega) h1
theorem vByW_rows (hW : ∀ a q, W a q ≤ 6) {what : Nat} (h4 : 4 ≤ what) (h6 : what ≤ 6) {gg : Nat → Int32} (h : Fil P (vByW W (tabG what)) K 0 gg) : RowsAre K P gg (wRow (gW what) W) ∧ GB K P gg := by
  have e : ∀ a o, a < K → o ≤ P → gg (a * 7 + o) = vByW W (tabG what) a o := fun a o ha ho => h a o ho (Or.inl ha)
  have hv : ∀ v, 1 ≤ v → v ≤ 7 → tabG what v = zI (gW what v) ∧ smallZ (gW what v) := by
    intro v h1 h7
    have a1 := tabG_ok ⟨what - 4, by omega⟩ ⟨v - 1, by omega⟩
    have a2 := gW_small ⟨what - 4, by omega⟩ ⟨v - 1, by omega⟩
    simp only at a1 a2
    rw [show what - 4 + 4 = what by omega, show v - 1 + 1 = v by omega] at a1 a2
    exact ⟨a1, a2.1⟩
  constructor
  · intro a o ha ho
    have h8 := wo_le W hW a o
    unfold gRow wRow
    rw [e a o ha ho]
    unfold vByW
    by_cases hw : 7 < wo W a o
    · rw [if_pos hw, if_pos hw, if_pos rfl]
    · obtain ⟨x1, x2⟩ := hv (wo W a o) h8.2 (by omega)
      rw [if_neg hw, if_neg hw, x1, if_neg (zI_rul x2), zI_small x2]
  · intro a o ha ho
    have h8 := wo_le W hW a o
    rw [e a o ha ho]
    unfold vByW
    by_cases hw : 7 < wo W a o
    · rw [if_pos hw]; exact Or.inl rfl
    · obtain ⟨x1, x2⟩ := hv (wo W a o) h8.2 (by omega)
      rw [if_neg hw, x1, zI_small x2]
      exact Or.inr x2
theorem X7_findByWorth_ok (hN : 40000 ≤ N) (hG : GD K P S W T) {what : Nat} (h4 : 4 ≤ what) (h6 : what ≤ 6) {cs cw : Nat → Int32} (hs3 : ∀ q, q < 6 → cs q = nI (S q)) (hw4 : ∀ a q, a < 8 → q < 6 → cw (a * 6 + q) = nI (W a q)) {c_aimed_askers : Int32} {c_aimed_places : Int32} {c_aimed_seatBits : Int32} {c_aimed_entries : Int32} {c_row : Nat → Int32} {c_aimed_best : Nat → Int32} {c_aimed_clipAll : Nat → Int32} {c_aimed_clipToOne : Nat → Int32} {c_aimed_clipToTwo : Nat → Int32} {c_aimed_firstOf : Nat → Int32} {c_aimed_gains : Nat → Int32} {c_aimed_left : Nat → Int32} {c_aimed_next : Nat → Int32} {c_aimed_solvedGains : Nat → Int32} {c_aimed_ways : Nat → Int32} {c_all_slots : Nat → Int32} (hv : SV c_aimed_askers c_aimed_places c_aimed_seatBits c_aimed_best c_aimed_next c_aimed_solvedGains c_aimed_ways) :
    ∃ ca' cp' sb' ce' row' best' clA' clO' clT' fo' g' left' next' sg' ways' slots', f_X7_findByWorth N (nI K) (nI P) cs cw (tabG what) c_aimed_askers c_aimed_places c_aimed_seatBits c_aimed_entries c_row c_aimed_best c_aimed_clipAll c_aimed_clipToOne c_aimed_clipToTwo c_aimed_firstOf c_aimed_gains c_aimed_left c_aimed_next c_aimed_solvedGains c_aimed_ways c_all_slots = some (ca', cp', sb', ce', row', best', clA', clO', clT', fo', g', left', next', sg', ways', slots') ∧ RowIs K (nthT P (rf (wRow (gW what) W) 0 K) S 0) row' ∧ SV ca' cp' sb' best' next' sg' ways' := by
  have hK := hG.K8
  have hP := hG.P6
  unfold f_X7_findByWorth
  obtain ⟨g', g1, g2⟩ := bw_2 (cs := cs) (G := tabG what) hN hK hP hG.W6 hw4 (c_aimed_askers := c_aimed_askers) (c_aimed_places := c_aimed_places) (c_aimed_seatBits := c_aimed_seatBits) (c_aimed_entries := c_aimed_entries) (c_row := c_row) (c_aimed_best := c_aimed_best) (c_aimed_clipAll := c_aimed_clipAll) (c_aimed_clipToOne := c_aimed_clipToOne) (c_aimed_clipToTwo := c_aimed_clipToTwo) (c_aimed_firstOf := c_aimed_firstOf) (c_aimed_left := c_aimed_left) (c_aimed_next := c_aimed_next) (c_aimed_solvedGains := c_aimed_solvedGains) (c_aimed_ways := c_aimed_ways) (c_all_slots := c_all_slots) N 0 c_aimed_gains (Nat.zero_le _) (by omega) Fil_0
  obtain ⟨r1, r2⟩ := vByW_rows hG.W6 h4 h6 g1
  obtain ⟨ce', best', clA', clO', clT', fo', left', next', slots', sg', ways', s1, s2, s3⟩ := solve_ok hN hK hP hG.S3 (fun q hq => hG.S0 hq) hs3 r2 hv c_aimed_entries c_aimed_clipAll c_aimed_clipToOne c_aimed_clipToTwo c_aimed_firstOf c_aimed_left c_all_slots
  obtain ⟨B, M, v1⟩ := worth_some (gW what) W S K P
  obtain ⟨u1, u2, u3⟩ := rows_b31 hK hP r1 r2 v1
  obtain ⟨row', p1, p2⟩ := pathTo_ok (N := N) hN hK hP r2 s2 s3 u1 u3 c_row
  rw [show (0 : Int32) = nI 0 from rfl, g2, s1, bd]
  simp only
  rw [show (0 : Int32) = nI 0 from rfl, p1, bd]
  refine ⟨_, _, _, ce', row', best', clA', clO', clT', fo', g', left', next', sg', ways', slots', rfl, ?_, SV_of hK hP hG.S3 r2 s2 s3⟩
  rw [nthT_rows r1] at p2
  exact p2
/-! the reference -/
theorem power_ok : ∀ (n k m : Nat), k ≤ m → m ≤ 6 → m - k < n → f_X8_power_4 N n (nI m) (lN (9 ^ k)) (nI k) = some (lN (9 ^ m)) := by
  intro n
  induction n with
  | zero => intro k m h1 h2 h3; omega
  | succ n ih =>
    intro k m h1 h2 h3
    rw [f_X8_power_4]
    by_cases h : m ≤ k
    · have : k = m := by omega
      subst this
      rw [if_pos (nI_le (Nat.le_refl _) (by omega))]
    · rw [if_neg (nI_ge (by omega) (by omega)), nI_1, show (9 : Int64) = lN 9 from rfl, lN_mul, ← Nat.pow_succ]
      exact ih (k + 1) m (by omega) h2 (by omega)
theorem X8_power_ok (hN : 40000 ≤ N) {m : Nat} (hm : m ≤ 6) : f_X8_power N (nI m) = some (lN (9 ^ m)) := by
  have := power_ok (N := N) N 0 m (Nat.zero_le _) hm (by omega)
  exact this
theorem costBy_ok (hN : 40000 ≤ N) {what v : Nat} (h4 : 4 ≤ what) (h6 : what ≤ 6) (hv : 1 ≤ v) (hv7 : v ≤ 7) : f_X8_costBy N (nI what) (nI v) = some (zL (-rW what v)) := by
  have hl : ∀ n : Nat, zL (n : Int) = lN n := zL_nat
  unfold f_X8_costBy
  have e4 : (nI what = 4) = (what = 4) := q_eq (b := 4) (by omega) (by decide)
  have e5 : (nI what = 5) = (what = 5) := q_eq (b := 5) (by omega) (by decide)
  simp (disch := omega) only [e4, e5, q_le6]
  unfold rW
  by_cases h : what = 4
  · rw [if_pos h, if_pos h]
    unfold fFirst
    by_cases hv6 : v ≤ 6
    · rw [if_pos hv6, if_pos hv6, show (6 : Int32) = nI 6 from rfl, pk_sub hv6, X8_power_ok hN (by omega), bd, ← zL_nat, zL_neg]
    · rw [if_neg hv6, if_neg hv6]; rfl
  · rw [if_neg h, if_neg h]
    by_cases h5 : what = 5
    · rw [if_pos h5, if_pos h5]
      unfold fFair
      rw [show (1 : Int32) = nI 1 from rfl, pk_sub hv, X8_power_ok hN (by omega), bd, Int.neg_neg, zL_nat]
    · rw [if_neg h5, if_neg h5]
      by_cases hv6 : v ≤ 6
      · rw [if_pos hv6, if_pos hv6, nI_l (by omega), Int.neg_neg, zL_nat]
      · rw [if_neg hv6, if_neg hv6]; rfl
def vCostW (what : Nat) (W : Nat → Nat → Nat) (a o : Nat) : Int64 := if 7 < wo W a o then zL NV else zL (-rW what (wo W a o))
theorem by_12 (hN : 40000 ≤ N) (hP : P ≤ 6) (hW : ∀ a q, W a q ≤ 6) {what : Nat} (h4 : 4 ≤ what) (h6 : what ≤ 6) {ms mw : Nat → Int32} (hw4 : ∀ a q, a < 8 → q < 6 → mw (a * 6 + q) = nI (W a q)) {c_full : Int32} {c_found : (Nat → Int32)} {c_least : (Nat → Int64)} {c_weight : (Nat → Int32)} {a : Nat} (ha : a < 8) (k2 : Int32 → (Nat → Int64) → (Nat → Int32) → (Nat → Int64) → (Nat → Int32) → Int32 → Int32 → Option (Int32 × (Nat → Int64) × (Nat → Int32) × (Nat → Int64) × (Nat → Int32))) :
    ∀ (n o : Nat) (c_cost : Nat → Int64), o ≤ P + 1 → P + 1 - o < n → FilL P (vCostW what W) a o c_cost → ∃ c', FilL P (vCostW what W) (a + 1) 0 c' ∧
      f_X8_findBy_12 N (nI K) (nI P) ms mw k2 n c_full c_cost c_found c_least c_weight (nI what) (nI a) (nI o) = k2 c_full c' c_found c_least c_weight (nI what) (nI (a + 1)) := by
  intro n
  induction n with
  | zero => intro o g h1 h2; omega
  | succ n ih =>
    intro o gg ho hn hf
    rw [f_X8_findBy_12]
    by_cases h : P < o
    · have : o = P + 1 := by omega
      subst this
      rw [if_pos (nI_lt h (by omega)), nI_1]
      exact ⟨gg, FilL_next hf, rfl⟩
    · have h8 := wo_le W hW a o
      rw [if_neg (nI_nlt (by omega) (by omega)), X8_worthOf_ok N hW hw4 ha (by omega), bd]
      simp (disch := omega) only [q_le7]
      unfold f_X8_findBy_57
      by_cases h7 : wo W a o ≤ 7
      · rw [if_pos h7, bd, costBy_ok hN h4 h6 h8.2 h7, bd, ix7', wrL_n _ _ (by omega) (by decide), bd, nI_1]
        exact ih (o + 1) _ (by omega) (by omega) (FilL_upd hP hf (by omega) (by unfold vCostW; rw [if_neg (by omega)]))
      · rw [if_neg h7, ix7', wrL_n _ _ (by omega) (by decide), bd, nI_1]
        exact ih (o + 1) _ (by omega) (by omega) (FilL_upd hP hf (by omega) (by unfold vCostW; rw [if_pos (by omega)]; rfl))
theorem by_2 (hN : 40000 ≤ N) (hK : K ≤ 8) (hP : P ≤ 6) (hW : ∀ a q, W a q ≤ 6) {what : Nat} (h4 : 4 ≤ what) (h6 : what ≤ 6) {ms mw : Nat → Int32} (hw4 : ∀ a q, a < 8 → q < 6 → mw (a * 6 + q) = nI (W a q)) {c_full : Int32} {c_found : (Nat → Int32)} {c_least : (Nat → Int64)} {c_weight : (Nat → Int32)} :
    ∀ (n a : Nat) (c_cost : Nat → Int64), a ≤ K → K - a < n → FilL P (vCostW what W) a 0 c_cost → ∃ c', FilL P (vCostW what W) K 0 c' ∧
      f_X8_findBy_2 N (nI K) (nI P) ms mw n c_full c_cost c_found c_least c_weight (nI what) (nI a) = (f_X8_findLeast N (nI K) (nI P) c' ms mw c_full c_found c_least c_weight).bind fun (r2, o3, o4, o5, o6) => some (o3, c', o4, o5, o6) := by
  intro n
  induction n with
  | zero => intro a g h1 h2; omega
  | succ n ih =>
    intro a gg ha hn hf
    rw [f_X8_findBy_2]
    by_cases h : K ≤ a
    · have : a = K := by omega
      subst this
      rw [if_pos (nI_le (Nat.le_refl _) (by omega))]
      exact ⟨gg, hf, rfl⟩
    · rw [if_neg (nI_ge (by omega) (by omega)), show (0 : Int32) = nI 0 from rfl]
      obtain ⟨c', h1, h2⟩ := by_12 (N := N) (K := K) (ms := ms) (what := what) hN hP hW h4 h6 hw4 (c_full := c_full) (c_found := c_found) (c_least := c_least) (c_weight := c_weight) (show a < 8 by omega) (f_X8_findBy_2 N (nI K) (nI P) ms mw n) N 0 gg (Nat.zero_le _) (by omega) hf
      rw [h2]
      exact ih (a + 1) c' (by omega) (by omega) h1
theorem X8_findBy_ok (hN : 40000 ≤ N) (hG : GD K P S W T) {what : Nat} (h4 : 4 ≤ what) (h6 : what ≤ 6) {ms mw : Nat → Int32} (hs3 : ∀ q, q < 6 → ms q = nI (S q)) (hw4 : ∀ a q, a < 8 → q < 6 → mw (a * 6 + q) = nI (W a q)) {c_full : Int32} {c_cost : Nat → Int64} {c_found : Nat → Int32} {c_least : Nat → Int64} {c_weight : Nat → Int32} :
    ∃ full' cost' found' least' weight', f_X8_findBy N (nI K) (nI P) ms mw c_full c_cost c_found c_least c_weight (nI what) = some (full', cost', found', least', weight') ∧ ∀ a, a < K → found' a = nI (nthT P (rf (wRow (rW what) W) 0 K) S 0 a) := by
  have hK := hG.K8
  have hP := hG.P6
  unfold f_X8_findBy
  obtain ⟨c', g1, g2⟩ := by_2 (ms := ms) (what := what) hN hK hP hG.W6 h4 h6 hw4 (c_full := c_full) (c_found := c_found) (c_least := c_least) (c_weight := c_weight) N 0 c_cost (Nat.zero_le _) (by omega) FilL_0
  have e : ∀ a o, a < K → o ≤ P → c' (a * 7 + o) = vCostW what W a o := fun a o ha ho => g1 a o ho (Or.inl ha)
  have hv : ∀ v, 1 ≤ v → v ≤ 7 → -BB ≤ -rW what v ∧ -rW what v ≤ BB := by
    intro v h1 h7
    have a2 := gW_small ⟨what - 4, by omega⟩ ⟨v - 1, by omega⟩
    simp only at a2
    rw [show what - 4 + 4 = what by omega, show v - 1 + 1 = v by omega] at a2
    exact a2.2
  have hb63 : ∀ v, 1 ≤ v → v ≤ 7 → b63 (-rW what v) := by
    intro v h1 h7
    have := hv v h1 h7
    simp only [BB] at this
    exact ⟨by omega, by omega⟩
  have hne : ∀ v, 1 ≤ v → v ≤ 7 → ¬ zL (-rW what v) = zL NV := by
    intro v h1 h7 z
    have := (zL_eq (hb63 v h1 h7) (by unfold b63; simp only [NV]; omega)).mp z
    have := hv v h1 h7
    simp only [BB, NV] at *
    omega
  have hC : CostOk K P W c' := by
    intro a o ha ho
    have h8 := wo_le W hG.W6 a o
    rw [e a o ha ho]
    unfold vCostW
    by_cases hw : 7 < wo W a o
    · rw [if_pos hw]; exact Or.inl rfl
    · rw [if_neg hw, zL_toInt (hb63 _ h8.2 (by omega))]
      exact Or.inr ⟨(hv _ h8.2 (by omega)).1, (hv _ h8.2 (by omega)).2, fun q hq => wo_wish hG.W6 hw hq⟩
  have hR : ∀ a o, a < K → o ≤ P → cRow c' a o = wRow (rW what) W a o := by
    intro a o ha ho
    have h8 := wo_le W hG.W6 a o
    unfold cRow wRow
    rw [e a o ha ho]
    unfold vCostW
    by_cases hw : 7 < wo W a o
    · rw [if_pos hw, if_pos hw, if_pos rfl]
    · rw [if_neg hw, if_neg hw, if_neg (hne _ h8.2 (by omega)), zL_toInt (hb63 _ h8.2 (by omega)), Int.neg_neg]
  obtain ⟨B, M, v1⟩ := worth_some (rW what) W S K P
  have hb' : bw P (cF K P c' 0) S = some (B, M) := by
    rw [← v1]
    unfold cF
    exact bw_cong P _ _ _ _ _ (fun i o h1 h2 h3 => hR i o (by omega) h3)
  obtain ⟨found', least', weight', f1, f2⟩ := X8_findLeast_ok (N := N) hC hK hP hs3 (fun q _ => hG.S3 q) hG.W6 hw4 hN hb' c_full c_found c_weight c_least
  rw [show (0 : Int32) = nI 0 from rfl, g2, f1, bd]
  refine ⟨nI (wgt S P - 1), c', found', least', weight', rfl, fun a ha => ?_⟩
  rw [f2 a ha]
  unfold nthT cF
  rw [nth_cong P _ (wRow (rW what) W) (K - 0) 0 S S 0 (fun i o h1 h2 h3 => hR i o (by omega) h3) (fun _ _ => rfl)]
  rfl
/-- both find the same -/
theorem byworth_same (hG : GD K P S W T) {what : Nat} (h4 : 4 ≤ what) (h6 : what ≤ 6) : nthT P (rf (wRow (gW what) W) 0 K) S 0 = nthT P (rf (wRow (rW what) W) 0 K) S 0 := by
  obtain ⟨B, M, h1⟩ := worth_some (gW what) W S K P
  obtain ⟨B', M', h2⟩ := worth_some (rW what) W S K P
  unfold nthT
  by_cases e4 : what = 4
  · have e1 : gW what = fFirst 16 := funext fun v => by unfold gW; rw [if_pos e4]
    have e2 : rW what = fFirst 9 := funext fun v => by unfold rW; rw [if_pos e4]
    rw [e1] at h1 ⊢
    rw [e2] at h2 ⊢
    rw [alike_nth hG.K8 hG.W6 (alike_first (by decide) (by decide)) h1 h2]
  · by_cases e5 : what = 5
    · have e1 : gW what = fFair 16 := funext fun v => by unfold gW; rw [if_neg e4, if_pos e5]
      have e2 : rW what = fFair 9 := funext fun v => by unfold rW; rw [if_neg e4, if_pos e5]
      rw [e1] at h1 ⊢
      rw [e2] at h2 ⊢
      rw [alike_nth hG.K8 hG.W6 (alike_fair (by decide) (by decide)) h1 h2]
    · have e1 : gW what = rW what := funext fun v => by unfold gW rW; rw [if_neg e4, if_neg e5, if_neg e4, if_neg e5]
      rw [e1]
end BYW
