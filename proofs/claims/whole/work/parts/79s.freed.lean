/-! FREED: tight and freed, and the reference's findStanding -/
section FREED
variable {N K P : Nat} {S : Nat → Nat} {W T : Nat → Nat → Nat} {mw : Nat → Int32}
theorem kin_cong {f C D : Nat → Bool} (h : ∀ q, q < P → C q = D q) : (kin f C P = true) = (kin f D P = true) := by
  rw [kin_iff, kin_iff]
  exact propext ⟨fun z q hq hf => by rw [← h q hq]; exact z q hq hf, fun z q hq hf => by rw [h q hq]; exact z q hq hf⟩
theorem kun_cong {C D : Nat → Bool} (h : ∀ q, q < P → C q = D q) : ∀ fs, kun P C fs = kun P D fs
  | [] => rfl
  | f :: t => by
    rw [kun, kun, kun_cong h t]
    by_cases e : kin f C P = true
    · rw [if_pos e, if_pos ((kin_cong h) ▸ e)]
    · rw [if_neg e, if_neg (fun z => e ((kin_cong h).symm ▸ z))]
theorem cov_cong {C D : Nat → Bool} {fs : List (Nat → Bool)} {σ : Sv} (h : ∀ q, q < P → C q = D q) : cov P fs σ C = cov P fs σ D := by
  unfold cov ksz
  rw [kun_cong h, fb_sm_cong (g := fun q => if D q then σ q else 0) (fun q hq => by rw [h q hq])]
theorem btb_em (C : Nat → Bool) : ∀ q, q < P → btb (em C P) q = C q := fun q hq => by
  unfold btb
  rw [bt_em C P q hq]
  cases C q <;> rfl
theorem LI_most {most tight : Nat} (h : LI K P S W (2 ^ P) most tight) : most = mN K P W S ∧ ∀ q, q < P → (bt tight q = 1 ↔ ∃ C, cov P (ffl W P 0 K) S C = mN K P W S ∧ C q = true) := by
  obtain ⟨h1, h2, h3, h4, h5⟩ := h
  obtain ⟨-, m1, C0, m2⟩ := mN_spec K P W S
  have e0 : cvN K P S W (em C0 P) = mN K P W S := by
    unfold cvN
    rw [cov_cong (btb_em C0), m2]
  have hle : most ≤ mN K P W S := by rw [← e0]; exact h1 _ (em_lt C0 P)
  have hm : most = mN K P W S := by
    rcases h3 with ⟨n', g1, g2⟩ | z
    · have := m1 (btb n')
      have e : cov P (ffl W P 0 K) S (btb n') = most := g2
      omega
    · have g1 := m1 (fun _ => false)
      have g2 := kun_ffl_le (P := P) (W := W) (fun _ => false) K 0
      have g3 : ksz S (fun _ => false) P = 0 := fb_sm_zero_of (fun k _ => by simp)
      unfold cov at g1
      omega
  refine ⟨hm, fun q hq => ?_⟩
  rw [h5]
  constructor
  · rintro ⟨n', g1, g2, g3⟩
    exact ⟨btb n', g2.trans hm, decide_eq_true g3⟩
  · rintro ⟨C, g1, g2⟩
    refine ⟨em C P, em_lt C P, ?_, ?_⟩
    · unfold cvN
      rw [cov_cong (btb_em C), g1, hm]
    · have := btb_em (P := P) C q hq
      rw [g2] at this
      exact of_decide_eq_true this
/-- a seat of q may be spared -/
def frB (K P : Nat) (W : Nat → Nat → Nat) (S : Sv) (q : Nat) : Bool := decide (mN K P W (dec S q) = mN K P W S)
theorem freed_tight {most tight : Nat} (h : LI K P S W (2 ^ P) most tight) {q : Nat} (hq : q < P) (hS : 0 < S q) : frB K P W S q = true ↔ bt tight q ≠ 1 := by
  obtain ⟨hm, ht⟩ := LI_most h
  obtain ⟨-, m1, C0, m2⟩ := mN_spec K P W S
  obtain ⟨-, d1, C1, d2⟩ := mN_spec K P W (dec S q)
  unfold frB
  rw [decide_eq_true_eq, ne_eq, ht q hq]
  constructor
  · rintro he ⟨C, g1, g2⟩
    have := cov_dec (fs := ffl W P 0 K) (C := C) hS hq
    rw [if_pos g2] at this
    have := d1 C
    omega
  · intro hno
    have a1 := cov_dec (fs := ffl W P 0 K) (C := C1) hS hq
    have a2 := cov_dec (fs := ffl W P 0 K) (C := C0) hS hq
    have a3 := m1 C1
    have a4 := d1 C0
    by_cases e : C1 q = true
    · rw [if_pos e] at a1
      have : cov P (ffl W P 0 K) S C1 ≠ mN K P W S := fun z => hno ⟨C1, z, e⟩
      omega
    · rw [if_neg e] at a1
      omega
theorem fs_20 (hP : P ≤ 6) (hW : ∀ a q, W a q ≤ 6) (hw : ∀ a q, a < 8 → q < 6 → mw (a * 6 + q) = nI (W a q)) {a : Nat} (ha : a < 8) {c_full : Int32} {c_firsts : Int32} {c_freed : Int32} {c_cost : (Nat → Int64)} {c_found : (Nat → Int32)} {c_least : (Nat → Int64)} {c_seats : (Nat → Int32)} {c_secondWorth : (Nat → Int32)} {c_weight : (Nat → Int32)} (k2 : Int32 → Int32 → Int32 → (Nat → Int64) → (Nat → Int32) → (Nat → Int32) → (Nat → Int64) → (Nat → Int32) → (Nat → Int32) → (Nat → Int32) → Int32 → Option (Int32 × Int32 × Int32 × (Nat → Int64) × (Nat → Int32) × (Nat → Int32) × (Nat → Int64) × (Nat → Int32) × (Nat → Int32) × (Nat → Int32))) :
    ∀ (n q : Nat) (fw : Nat → Int32), q ≤ P → P - q < n → fw a = nI (fwR W a q) →
      ∃ fw', f_X8_findStanding_20 N (nI K) (nI P) mw k2 n c_full c_firsts c_freed c_cost fw c_found c_least c_seats c_secondWorth c_weight (nI a) (nI q) = k2 c_full c_firsts c_freed c_cost fw' c_found c_least c_seats c_secondWorth c_weight (nI (a + 1)) ∧ fw' a = nI (fwR W a P) ∧ ∀ b, b ≠ a → fw' b = fw b := by
  intro n
  induction n with
  | zero => intro q fw h1 h2; omega
  | succ n ih =>
    intro q fw h1 h2 h3
    rw [f_X8_findStanding_20]
    by_cases hc : P ≤ q
    · have : q = P := by omega
      subst this
      rw [if_pos (nI_le (Nat.le_refl _) (by omega)), nI_1]
      exact ⟨fw, rfl, h3, fun _ _ => rfl⟩
    · have h7 := fwR_7 (W := W) a q
      have h8 := wo_le W hW a (q + 1)
      rw [if_neg (nI_ge (by omega) (by omega)), nI_1, X8_worthOf_ok N hW hw ha (by omega), bd, rdI_n _ (by omega) (by decide), bd, h3]
      have put : ∀ z, z = nI (fwR W a (q + 1)) → ∃ fw', f_X8_findStanding_62 N (nI K) (nI P) mw (f_X8_findStanding_20 N (nI K) (nI P) mw k2 n) c_full c_firsts c_freed c_cost fw c_found c_least c_seats c_secondWorth c_weight (nI a) (nI q) (nI a) z = k2 c_full c_firsts c_freed c_cost fw' c_found c_least c_seats c_secondWorth c_weight (nI (a + 1)) ∧ fw' a = nI (fwR W a P) ∧ ∀ b, b ≠ a → fw' b = fw b := by
        intro z hz
        unfold f_X8_findStanding_62
        rw [wrI_n _ _ (by omega) (by decide), bd, nI_1]
        obtain ⟨fw', e1, e2, e3⟩ := ih (q + 1) (upd fw a z) (by omega) (by omega) (by rw [pk_us]; exact hz)
        exact ⟨fw', e1, e2, fun b hb => by rw [e3 b hb, pk_un hb]⟩
      by_cases hle : fwR W a q ≤ wo W a (q + 1)
      · rw [if_pos (nI_le hle (by omega)), bd]
        exact put _ (by rw [fwR, Nat.min_eq_left hle])
      · rw [if_neg (nI_ge (by omega) (by omega))]
        exact put _ (by rw [fwR, Nat.min_eq_right (by omega)])
theorem fs_153 (hP : P ≤ 6) (hW : ∀ a q, W a q ≤ 6) (hw : ∀ a q, a < 8 → q < 6 → mw (a * 6 + q) = nI (W a q)) {freed tight : Nat} (hfr : freed < 64) (hft : ∀ q, q < P → (bt freed q = 1 ↔ bt tight q ≠ 1)) {a : Nat} (ha : a < 8) {c_full : Int32} {c_firsts : Int32} {c_cost : (Nat → Int64)} {c_firstWorth : (Nat → Int32)} {c_found : (Nat → Int32)} {c_least : (Nat → Int64)} {c_seats : (Nat → Int32)} {c_weight : (Nat → Int32)} (k135 : Int32 → Int32 → Int32 → (Nat → Int64) → (Nat → Int32) → (Nat → Int32) → (Nat → Int64) → (Nat → Int32) → (Nat → Int32) → (Nat → Int32) → Int32 → Option (Int32 × Int32 × Int32 × (Nat → Int64) × (Nat → Int32) × (Nat → Int32) × (Nat → Int64) × (Nat → Int32) × (Nat → Int32) × (Nat → Int32))) :
    ∀ (n q : Nat) (sw : Nat → Int32), q ≤ P → P - q < n → sw a = nI (swR W tight a q) →
      ∃ sw', f_X8_findStanding_153 N (nI K) (nI P) mw k135 n c_full c_firsts (nI freed) c_cost c_firstWorth c_found c_least c_seats sw c_weight (nI a) (nI q) = k135 c_full c_firsts (nI freed) c_cost c_firstWorth c_found c_least c_seats sw' c_weight (nI (a + 1)) ∧ sw' a = nI (swR W tight a P) ∧ ∀ b, b ≠ a → sw' b = sw b := by
  intro n
  induction n with
  | zero => intro q fw h1 h2; omega
  | succ n ih =>
    intro q sw h1 h2 h3
    rw [f_X8_findStanding_153]
    by_cases hc : P ≤ q
    · have : q = P := by omega
      subst this
      rw [if_pos (nI_le (Nat.le_refl _) (by omega)), nI_1]
      exact ⟨sw, rfl, h3, fun _ _ => rfl⟩
    · have h7 := swR_7 (W := W) (tight := tight) a q
      have h8 := wo_le W hW a (q + 1)
      have put : ∀ v, v ≤ 8 → swR W tight a (q + 1) = min (swR W tight a q) v → ∃ sw', f_X8_findStanding_186 N (nI K) (nI P) mw (f_X8_findStanding_153 N (nI K) (nI P) mw k135 n) c_full c_firsts (nI freed) c_cost c_firstWorth c_found c_least c_seats sw c_weight (nI a) (nI q) (nI v) = k135 c_full c_firsts (nI freed) c_cost c_firstWorth c_found c_least c_seats sw' c_weight (nI (a + 1)) ∧ sw' a = nI (swR W tight a P) ∧ ∀ b, b ≠ a → sw' b = sw b := by
        intro v hv hmin
        unfold f_X8_findStanding_186 f_X8_findStanding_212
        rw [rdI_n _ (by omega) (by decide), bd, h3]
        by_cases hle : swR W tight a q ≤ v
        · rw [if_pos (nI_le hle (by omega)), bd, wrI_n _ _ (by omega) (by decide), bd, nI_1]
          obtain ⟨sw', e1, e2, e3⟩ := ih (q + 1) (upd sw a (nI (swR W tight a q))) (by omega) (by omega) (by rw [pk_us, hmin, Nat.min_eq_left hle])
          exact ⟨sw', e1, e2, fun b hb => by rw [e3 b hb, pk_un hb]⟩
        · rw [if_neg (nI_ge (by omega) (by omega)), wrI_n _ _ (by omega) (by decide), bd, nI_1]
          obtain ⟨sw', e1, e2, e3⟩ := ih (q + 1) (upd sw a (nI v)) (by omega) (by omega) (by rw [pk_us, hmin, Nat.min_eq_right (by omega)])
          exact ⟨sw', e1, e2, fun b hb => by rw [e3 b hb, pk_un hb]⟩
      rw [if_neg (nI_ge (by omega) (by omega)), bit1 (by omega) (by omega)]
      have hb2 := bt_lt freed q
      by_cases hb : bt freed q = 1
      · rw [if_pos (show nI (bt freed q) = 1 by rw [hb]; rfl), nI_1, X8_worthOf_ok N hW hw ha (by omega), bd]
        exact put _ h8.1 (by rw [swR, if_neg ((hft q (by omega)).mp hb)])
      · rw [if_neg (show ¬ nI (bt freed q) = 1 from nI_ne (b := 1) (by omega) (by decide) hb)]
        have ht : bt tight q = 1 := by
          by_cases e : bt tight q = 1
          · exact e
          · exact absurd ((hft q (by omega)).mpr e) hb
        exact put 8 (Nat.le_refl _) (by rw [swR, if_pos ht, Nat.min_eq_left (by omega)])
theorem fs_135 (hN : 40000 ≤ N) (hK : K ≤ 8) (hP : P ≤ 6) (hW : ∀ a q, W a q ≤ 6) (hw : ∀ a q, a < 8 → q < 6 → mw (a * 6 + q) = nI (W a q)) {freed tight : Nat} (hfr : freed < 64) (hft : ∀ q, q < P → (bt freed q = 1 ↔ bt tight q ≠ 1)) {c_full : Int32} {c_firsts : Int32} {c_cost : (Nat → Int64)} {c_firstWorth : (Nat → Int32)} {c_found : (Nat → Int32)} {c_least : (Nat → Int64)} {c_seats : (Nat → Int32)} {c_weight : (Nat → Int32)} :
    ∀ (n a : Nat) (sw : Nat → Int32), a ≤ K → K - a < n → (∀ b, b < a → sw b = nI (swR W tight b P)) →
      ∃ sw', f_X8_findStanding_135 N (nI K) (nI P) mw n c_full c_firsts (nI freed) c_cost c_firstWorth c_found c_least c_seats sw c_weight (nI a) = some (c_full, c_firsts, nI freed, c_cost, c_firstWorth, c_found, c_least, c_seats, sw', c_weight) ∧ ∀ b, b < K → sw' b = nI (swR W tight b P) := by
  intro n
  induction n with
  | zero => intro a sw h1 h2; omega
  | succ n ih =>
    intro a sw h1 h2 h3
    rw [f_X8_findStanding_135]
    by_cases hc : K ≤ a
    · have : a = K := by omega
      subst this
      rw [if_pos (nI_le (Nat.le_refl _) (by omega))]
      exact ⟨sw, rfl, h3⟩
    · rw [if_neg (nI_ge (by omega) (by omega)), wrI_n _ _ (by omega) (by decide), bd]
      obtain ⟨sw1, e1, e2, e3⟩ := fs_153 (N := N) (K := K) (c_full := c_full) (c_firsts := c_firsts) (c_cost := c_cost) (c_firstWorth := c_firstWorth) (c_found := c_found) (c_least := c_least) (c_seats := c_seats) (c_weight := c_weight) hP hW hw hfr hft (show a < 8 by omega) (f_X8_findStanding_135 N (nI K) (nI P) mw n) N 0 (upd sw a 7) (Nat.zero_le _) (by omega) (by rw [pk_us]; rfl)
      obtain ⟨sw2, e4, e5⟩ := ih (a + 1) sw1 (by omega) (by omega) (fun b hb => by
        by_cases e : b = a
        · rw [e]; exact e2
        · rw [e3 b e, pk_un e]; exact h3 b (by omega))
      exact ⟨sw2, e1.trans e4, e5⟩
end FREED
