/-! FSTAND: the reference's findStanding, whole -/
section FSTAND
variable {N K P : Nat} {S : Nat → Nat} {W T : Nat → Nat → Nat} {mw : Nat → Int32}
theorem fs_91 (hN : 40000 ≤ N) (hG : GD K P S W T) (hw : ∀ a q, a < 8 → q < 6 → mw (a * 6 + q) = nI (W a q)) {ms : Nat → Int32} (hs : ∀ q, q < 6 → ms q = nI (S q)) {fw : Nat → Int32} (hfw : ∀ a, a < K → fw a = nI (fwR W a P)) {most tight : Nat} (hI : LI K P S W (2 ^ P) most tight) (hm9 : mN K P W S < 1000) :
    ∀ (n p : Nat) {c_full : Int32} {c_cost : (Nat → Int64)} {c_found : (Nat → Int32)} {c_least : (Nat → Int64)} {c_secondWorth : (Nat → Int32)} {c_weight : (Nat → Int32)}, p ≤ P → P - p < n →
      ∃ full' cost' found' least' sw' weight', f_X8_findStanding_91 N (nI K) (nI P) mw n c_full (nI (mN K P W S)) (nI (em (frB K P W S) p)) c_cost fw c_found c_least ms c_secondWorth c_weight (nI p) = some (full', nI (mN K P W S), nI (em (frB K P W S) P), cost', fw, found', least', ms, sw', weight') ∧ ∀ b, b < K → sw' b = nI (swR W tight b P) := by
  have hP := hG.P6
  have hK := hG.K8
  intro n
  induction n with
  | zero => intro p; intros; omega
  | succ n ih =>
    intro p c_full c_cost c_found c_least c_secondWorth c_weight h1 h2
    rw [f_X8_findStanding_91]
    have hem := em_lt (frB K P W S) P
    have hp64 : 2 ^ P ≤ 2 ^ 6 := Nat.pow_le_pow_right (by decide) hP
    by_cases hc : P ≤ p
    · have : p = P := by omega
      subst this
      rw [if_pos (nI_le (Nat.le_refl _) (by omega))]
      obtain ⟨sw', e1, e2⟩ := fs_135 (N := N) (c_full := c_full) (c_firsts := nI (mN K p W S)) (c_cost := c_cost) (c_firstWorth := fw) (c_found := c_found) (c_least := c_least) (c_seats := ms) (c_weight := c_weight) (freed := em (frB K p W S) p) (tight := tight) hN hK hP hG.W6 hw (by omega) (fun q hq => by
        rw [bt_em _ p q hq, ← freed_tight hI hq (hG.S1 hq)]
        by_cases e : frB K p W S q = true
        · rw [if_pos e]; exact ⟨fun _ => e, fun _ => rfl⟩
        · rw [if_neg e]; exact ⟨fun z => absurd z (by decide), fun z => absurd z e⟩) N 0 c_secondWorth (Nat.zero_le _) (by omega) (fun b hb => absurd hb (Nat.not_lt_zero _))
      exact ⟨_, _, _, _, _, _, e1, e2⟩
    · obtain ⟨full1, cost1, found1, least1, weight1, f1, f2⟩ := (mf_2 (N := N) (c_full := c_full) (c_found := c_found) (c_least := c_least) (c_weight := c_weight) hN hK hP (fun q _ => hG.S3 q) hG.W6 hw hfw hs N 0 c_cost (Nat.zero_le _) (by omega) FilL_0).2 p (by omega) (hG.S1 (by omega))
      have f1' : f_X8_mostFirsts N (nI K) (nI P) fw mw c_full c_cost c_found c_least ms c_weight (nI p) = some (nI (mN K P W (dec S p)), full1, cost1, found1, least1, ms, weight1) := f1
      rw [if_neg (nI_ge (by omega) (by omega)), f1', bd]
      simp only
      have hs1 : em (frB K P W S) (p + 1) = em (frB K P W S) p + (if frB K P W S p = true then 2 ^ p else 0) := rfl
      have hrec := ih (p + 1) (c_full := full1) (c_cost := cost1) (c_found := found1) (c_least := least1) (c_secondWorth := c_secondWorth) (c_weight := weight1) (by omega) (by omega)
      rw [hs1] at hrec
      unfold f_X8_findStanding_123
      by_cases he : mN K P W (dec S p) = mN K P W S
      · rw [if_pos (by rw [he]), one_sh (by omega), nI_or, em_or, nI_1]
        rw [if_pos (show frB K P W S p = true from decide_eq_true he)] at hrec
        exact hrec
      · rw [if_neg (nI_ne (by omega) (by omega) he), show (0 : Int32) = nI 0 from rfl, nI_or, Nat.or_zero, nI_1]
        rw [if_neg (show ¬ frB K P W S p = true from fun z => he (of_decide_eq_true z)), Nat.add_zero] at hrec
        exact hrec
theorem fs_2 (hN : 40000 ≤ N) (hG : GD K P S W T) (hw : ∀ a q, a < 8 → q < 6 → mw (a * 6 + q) = nI (W a q)) {ms : Nat → Int32} (hs : ∀ q, q < 6 → ms q = nI (S q)) {most tight : Nat} (hI : LI K P S W (2 ^ P) most tight) {c_full : Int32} {c_firsts : Int32} {c_freed : Int32} {c_cost : (Nat → Int64)} {c_found : (Nat → Int32)} {c_least : (Nat → Int64)} {c_secondWorth : (Nat → Int32)} {c_weight : (Nat → Int32)} :
    ∀ (n a : Nat) (fw : Nat → Int32), a ≤ K → K - a < n → (∀ b, b < a → fw b = nI (fwR W b P)) →
      ∃ full' cost' fw' found' least' sw' weight', f_X8_findStanding_2 N (nI K) (nI P) mw n c_full c_firsts c_freed c_cost fw c_found c_least ms c_secondWorth c_weight (nI a) = some (full', nI (mN K P W S), nI (em (frB K P W S) P), cost', fw', found', least', ms, sw', weight') ∧ (∀ b, b < K → fw' b = nI (fwR W b P)) ∧ ∀ b, b < K → sw' b = nI (swR W tight b P) := by
  have hP := hG.P6
  have hK := hG.K8
  intro n
  induction n with
  | zero => intro a fw h1 h2; omega
  | succ n ih =>
    intro a fw h1 h2 h3
    rw [f_X8_findStanding_2]
    by_cases hc : K ≤ a
    · have : a = K := by omega
      subst this
      rw [if_pos (nI_le (Nat.le_refl _) (by omega))]
      obtain ⟨full1, cost1, found1, least1, weight1, f1, f2⟩ := (mf_2 (N := N) (c_full := c_full) (c_found := c_found) (c_least := c_least) (c_weight := c_weight) hN hK hP (fun q _ => hG.S3 q) hG.W6 hw h3 hs N 0 c_cost (Nat.zero_le _) (by omega) FilL_0).1
      have f1' : f_X8_mostFirsts N (nI a) (nI P) fw mw c_full c_cost c_found c_least ms c_weight (-1) = some (nI (mN a P W S), full1, cost1, found1, least1, ms, weight1) := f1
      rw [f1', bd]
      simp only
      obtain ⟨full', cost', found', least', sw', weight', e1, e2⟩ := fs_91 (N := N) hN hG hw hs h3 hI f2 N 0 (c_full := full1) (c_cost := cost1) (c_found := found1) (c_least := least1) (c_secondWorth := c_secondWorth) (c_weight := weight1) (Nat.zero_le _) (by omega)
      exact ⟨_, _, fw, _, _, _, _, e1, h3, e2⟩
    · rw [if_neg (nI_ge (by omega) (by omega)), wrI_n _ _ (by omega) (by decide), bd]
      obtain ⟨fw1, e1, e2, e3⟩ := fs_20 (N := N) (K := K) (c_full := c_full) (c_firsts := c_firsts) (c_freed := c_freed) (c_cost := c_cost) (c_found := c_found) (c_least := c_least) (c_seats := ms) (c_secondWorth := c_secondWorth) (c_weight := c_weight) hP hG.W6 hw (show a < 8 by omega) (f_X8_findStanding_2 N (nI K) (nI P) mw n) N 0 (upd fw a 7) (Nat.zero_le _) (by omega) (by rw [pk_us]; rfl)
      obtain ⟨full', cost', fw', found', least', sw', weight', e4, e5⟩ := ih (a + 1) fw1 (by omega) (by omega) (fun b hb => by
        by_cases e : b = a
        · rw [e]; exact e2
        · rw [e3 b e, pk_un e]; exact h3 b (by omega))
      exact ⟨full', cost', fw', found', least', sw', weight', e1.trans e4, e5⟩
end FSTAND
