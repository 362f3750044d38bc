/-! leaving: walks, rings, the class's search -/
section RING1
variable {N K P : Nat} {S : Nat → Nat} {W T : Nat → Nat → Nat}
def wntB (W T : Nat → Nat → Nat) (m h a b : Nat) : Bool := decide (T h a ≠ 0) && (decide (T h b ≠ 0) && decide (wo W a (T h b) < wo W a (T m a)))
/-- a walk of k + 1 steps from a back to f, over those above f -/
def cwB (R : Nat → Nat → Bool) (K f : Nat) : Nat → Nat → Bool
  | 0, a => R a f
  | k + 1, a => decide (0 < fb_ct (fun b => decide (f < b) && (cwB R K f k b && R a b)) K)
theorem cwB_iff {R : Nat → Nat → Bool} {f k a : Nat} : cwB R K f (k + 1) a = true ↔ ∃ b, f < b ∧ b < K ∧ cwB R K f k b = true ∧ R a b = true := by
  rw [cwB, decide_eq_true_eq, fb_ct_pos]
  constructor
  · rintro ⟨b, h1, h2⟩
    simp only [Bool.and_eq_true, decide_eq_true_eq] at h2
    exact ⟨b, h2.1, h1, h2.2.1, h2.2.2⟩
  · rintro ⟨b, h1, h2, h3, h4⟩
    exact ⟨b, h2, by simp only [Bool.and_eq_true, decide_eq_true_eq]; exact ⟨h1, h3, h4⟩⟩
def frst (p : Nat → Bool) : Nat → Nat
  | 0 => 0
  | n + 1 => if frst p n < n then frst p n else if p n then n else n + 1
theorem frst_ok (p : Nat → Bool) : ∀ n, frst p n ≤ n ∧ (frst p n < n → p (frst p n) = true) ∧ ∀ i, i < frst p n → p i = false
  | 0 => ⟨Nat.le_refl _, fun h => absurd h (Nat.lt_irrefl 0), fun i hi => absurd hi (Nat.not_lt_zero i)⟩
  | n + 1 => by
    obtain ⟨h1, h2, h3⟩ := frst_ok p n
    rw [frst]
    by_cases h : frst p n < n
    · rw [if_pos h]
      exact ⟨by omega, fun _ => h2 h, h3⟩
    · rw [if_neg h]
      have e : frst p n = n := by omega
      rw [e] at h3
      by_cases hp : p n = true
      · rw [if_pos hp]
        exact ⟨by omega, fun _ => hp, h3⟩
      · rw [if_neg hp]
        refine ⟨Nat.le_refl _, fun z => absurd z (Nat.lt_irrefl _), fun i hi => ?_⟩
        rcases Nat.lt_or_ge i n with z | z
        · exact h3 i z
        · rw [show i = n by omega]; simpa using hp
theorem frst_eq {p : Nat → Bool} {n i : Nat} (hi : i < n) (hp : p i = true) (hl : ∀ j, j < i → p j = false) : frst p n = i := by
  obtain ⟨h1, h2, h3⟩ := frst_ok p n
  rcases Nat.lt_trichotomy (frst p n) i with z | z | z
  · have := h2 (by omega)
    rw [hl _ z] at this
    cases this
  · exact z
  · have := h3 i z
    rw [hp] at this
    cases this
/-- the least next one, and so on -/
def nxB (R : Nat → Nat → Bool) (K f k a : Nat) : Nat := frst (fun o => decide (f < o) && (R a o && cwB R K f k o)) K
def grB (R : Nat → Nat → Bool) (K f : Nat) : Nat → Nat → Nat → Nat
  | 0, a, _ => a
  | k + 1, a, 0 => nxB R K f k a
  | k + 1, a, j + 1 => grB R K f k (nxB R K f k a) j
theorem prefix_walk {R : Nat → Nat → Bool} {f had : Nat} {μ : Nat → Nat} (h0 : μ 0 = f) (hK : ∀ i, i < had → μ i < K) (hf : ∀ i, i < had → 1 ≤ i → f < μ i) (hw : ∀ i, i + 1 < had → R (μ i) (μ (i + 1)) = true) : ∀ (i c : Nat), i < had → cwB R K f c (μ i) = true → cwB R K f (c + i) f = true
  | 0, c, _, h => by rw [h0] at h; exact h
  | i + 1, c, hi, h => by
    have := prefix_walk h0 hK hf hw i (c + 1) (by omega) (cwB_iff.mpr ⟨μ (i + 1), hf _ hi (by omega), hK _ hi, h, hw i hi⟩)
    rw [show c + (i + 1) = c + 1 + i by omega]
    exact this
theorem wo_22 (hK : K ≤ 8) (hW : ∀ a q, W a q ≤ 6) (hT6 : ∀ g a, T g a ≤ 6) {ct cw : Nat → Int32} (hw4 : ∀ a q, a < 8 → q < 6 → cw (a * 6 + q) = nI (W a q)) (ht5 : ∀ g a, g < 4 → a < 8 → ct (g * 8 + a) = oI (T g a)) {m h a : Nat} (hm : m < 4) (hh : h < 4) (ha : a < 8) (hta : T h a ≠ 0) :
    ∀ (n o : Nat), o ≤ K → K - o < n → f_X3_wantsOf_22 N (nI K) ct cw n (nI m) (nI h) (nI a) (nI (em (wntB W T m h a) o)) (nI o) = some (nI (em (wntB W T m h a) K)) := by
  intro n
  induction n with
  | zero => intro o h1 h2; omega
  | succ n ih =>
    intro o ho hn
    rw [f_X3_wantsOf_22]
    by_cases hc : K ≤ o
    · have : o = K := by omega
      subst this
      rw [if_pos (nI_le (Nat.le_refl _) (by omega))]
    · have h6 := hT6 h o
      have h6m := hT6 m a
      have hs : em (wntB W T m h a) (o + 1) = em (wntB W T m h a) o + (if wntB W T m h a o = true then 2 ^ o else 0) := rfl
      have hrec := ih (o + 1) (by omega) (by omega)
      rw [hs] at hrec
      have h8 := wo_le W hW a (T h o)
      have h8m := wo_le W hW a (T m a)
      rw [if_neg (nI_ge (by omega) (by omega)), X0_toldOf_ok ht5 hh (by omega), bd]
      simp (disch := omega) only [q_on1]
      by_cases h0 : T h o = 0
      · rw [if_neg (by unfold wntB; simp [h0]), Nat.add_zero] at hrec
        rw [if_pos h0, nI_1]
        exact hrec
      · rw [if_neg h0, X0_worthOf_ok N hW hw4 ha h6, bd, X0_toldWorth_ok hW hw4 ht5 hm ha h6m, bd]
        simp (disch := omega) only [q_le]
        by_cases hle : wo W a (T m a) ≤ wo W a (T h o)
        · rw [if_neg (by unfold wntB; simp [h0, hta]; omega), Nat.add_zero] at hrec
          rw [if_pos hle, nI_1]
          exact hrec
        · rw [if_pos (by unfold wntB; simp [h0, hta]; omega)] at hrec
          rw [if_neg hle, one_sh (by omega), nI_or, em_or, nI_1]
          exact hrec
theorem wantsOf_ok (hN : 40000 ≤ N) (hK : K ≤ 8) (hW : ∀ a q, W a q ≤ 6) (hT6 : ∀ g a, T g a ≤ 6) {ct cw : Nat → Int32} (hw4 : ∀ a q, a < 8 → q < 6 → cw (a * 6 + q) = nI (W a q)) (ht5 : ∀ g a, g < 4 → a < 8 → ct (g * 8 + a) = oI (T g a)) {m h a : Nat} (hm : m < 4) (hh : h < 4) (ha : a < 8) :
    f_X3_wantsOf N (nI K) ct cw (nI m) (nI h) (nI a) = some (nI (em (wntB W T m h a) K)) := by
  have h6 := hT6 h a
  unfold f_X3_wantsOf
  rw [X0_toldOf_ok ht5 hh ha, bd]
  simp (disch := omega) only [q_on1]
  by_cases h0 : T h a = 0
  · rw [if_pos h0]
    have : ∀ n, em (wntB W T m h a) n = 0 := by
      intro n
      induction n with
      | zero => rfl
      | succ n ih => rw [em, ih, if_neg (by unfold wntB; simp [h0])]
    rw [this]
    rfl
  · rw [if_neg h0]
    exact wo_22 hK hW hT6 hw4 ht5 hm hh ha h0 N 0 (Nat.zero_le _) (by omega)
theorem closes_ok (hN : 40000 ≤ N) (hK : K ≤ 8) {R : Nat → Nat → Bool} {wants : Nat → Int32} (hwt : ∀ a, a < K → wants a = nI (em (R a) K)) {f s : Nat} (hf : f < K) (hsK : s ≤ K) (hmin : (∀ l, l + 1 < s → cwB R K f l f = false) ∨ cwB R K f (s - 1) f = false) :
    ∀ (d had : Nat) (members : Nat → Int32) (μ : Nat → Nat) (used : Nat), 1 ≤ had → had ≤ s → s - had < d → (∀ i, i < had → members i = nI (μ i) ∧ μ i < K ∧ (1 ≤ i → f < μ i)) → μ 0 = f → (∀ i, i + 1 < had → R (μ i) (μ (i + 1)) = true) → used < 2 ^ 8 → (∀ o, o < 8 → (bt used o = 1 ↔ ∃ i, i < had ∧ μ i = o)) →
      ∃ res members', f_X3_closes N d (nI K) wants members (nI had) (nI used) (nI s) = some (res, members') ∧ (∀ i, i < had → members' i = members i) ∧ (cwB R K f (s - had) (μ (had - 1)) = true → res = 1 ∧ ∀ j, j < s - had → members' (had + j) = nI (grB R K f (s - had) (μ (had - 1)) j)) ∧ (cwB R K f (s - had) (μ (had - 1)) = false → res = 0) := by
  intro d
  induction d with
  | zero => intro had members μ used h1 h2 h3; omega
  | succ d ih =>
    intro had members μ used h1 h2 h3 hmem hμ0 hwalk hus hbt
    obtain ⟨l1, l2, l3⟩ := hmem (had - 1) (by omega)
    obtain ⟨z1, z2, z3⟩ := hmem 0 (by omega)
    have hem := em_lt (R (μ (had - 1))) K
    have hpK : 2 ^ K ≤ 2 ^ 8 := Nat.pow_le_pow_right (by decide) hK
    have hbit : ∀ o, o < K → ((nI (em (R (μ (had - 1))) K) >>> (nI o &&& 31)) &&& (1 : Int32)) = nI (if R (μ (had - 1)) o then 1 else 0) := fun o ho => by rw [bit1 (by omega) (by omega), bt_em _ K o ho]
    rw [f_X3_closes, if_neg (show ¬ nI had < 1 from nI_nlt (b := 1) h1 (by omega)), if_pos (show nI had ≤ 8 from nI_le (b := 8) (by omega) (by decide)), show nI had - 1 = nI (had - 1) from pk_sub h1, rdI_n _ (by omega) (by decide), bd, l1, rdI_n _ (by omega) (by decide), bd, hwt _ l2]
    by_cases hsh : had < s
    · rw [if_pos (nI_lt hsh (by omega)), show (0 : Int32) = nI 0 from rfl, rdI_n _ (by omega) (by decide), bd, z1, hμ0, nI_1]
      obtain ⟨k, hk⟩ : ∃ k, s - had = k + 1 := ⟨s - had - 1, by omega⟩
      rw [hk]
      -- the loop over those above
      have loop : ∀ (n o : Nat) (mem : Nat → Int32), f + 1 ≤ o → o ≤ K → K - o < n → (∀ i, i < had → mem i = members i) → (∀ o', f < o' → o' < o → (R (μ (had - 1)) o' && cwB R K f k o') = false) →
          ∃ res members', f_X3_closes_64 N (f_X3_closes N d) (nI K) wants n mem (nI had) (nI used) (nI s) (nI (em (R (μ (had - 1))) K)) (nI o) = some (res, members') ∧ (∀ i, i < had → members' i = members i) ∧ (cwB R K f (k + 1) (μ (had - 1)) = true → res = 1 ∧ ∀ j, j < k + 1 → members' (had + j) = nI (grB R K f (k + 1) (μ (had - 1)) j)) ∧ (cwB R K f (k + 1) (μ (had - 1)) = false → res = 0) := by
        intro n
        induction n with
        | zero => intro o mem q1 q2 q3; omega
        | succ n ihn =>
          intro o mem q1 q2 q3 q4 q5
          rw [f_X3_closes_64]
          by_cases hoK : K ≤ o
          · have : o = K := by omega
            subst this
            rw [if_pos (nI_le (Nat.le_refl _) (by omega))]
            have hno : cwB R o f (k + 1) (μ (had - 1)) = false := by
              cases hc : cwB R o f (k + 1) (μ (had - 1)) with
              | false => rfl
              | true =>
                obtain ⟨b, b1, b2, b3, b4⟩ := cwB_iff.mp hc
                have := q5 b b1 b2
                rw [b3, b4] at this
                cases this
            exact ⟨0, mem, rfl, q4, fun z => absurd z (by rw [hno]; decide), fun _ => rfl⟩
          · have hskip : (R (μ (had - 1)) o && cwB R K f k o) = false → ∃ res members', f_X3_closes_64 N (f_X3_closes N d) (nI K) wants n mem (nI had) (nI used) (nI s) (nI (em (R (μ (had - 1))) K)) (nI o + 1) = some (res, members') ∧ (∀ i, i < had → members' i = members i) ∧ (cwB R K f (k + 1) (μ (had - 1)) = true → res = 1 ∧ ∀ j, j < k + 1 → members' (had + j) = nI (grB R K f (k + 1) (μ (had - 1)) j)) ∧ (cwB R K f (k + 1) (μ (had - 1)) = false → res = 0) := by
              intro hx
              rw [nI_1]
              exact ihn (o + 1) mem (by omega) (by omega) (by omega) q4 (fun o' p1 p2 => by
                rcases Nat.lt_or_ge o' o with z | z
                · exact q5 o' p1 z
                · rw [show o' = o by omega]; exact hx)
            rw [if_neg (nI_ge (by omega) (by omega)), hbit o (by omega)]
            by_cases hR : R (μ (had - 1)) o = true
            · rw [if_pos hR, if_pos (show nI 1 = 1 from rfl), bit1 (by omega) (by omega)]
              have hb2 := bt_lt used o
              by_cases hu : bt used o = 1
              · rw [hu, if_neg (show ¬ nI 1 = 0 from one_ne)]
                refine hskip ?_
                rw [hR, Bool.true_and]
                cases hc : cwB R K f k o with
                | false => rfl
                | true =>
                  exfalso
                  obtain ⟨i, i1, i2⟩ := (hbt o (by omega)).mp hu
                  have hi1 : 1 ≤ i := by
                    rcases Nat.eq_zero_or_pos i with y | y
                    · rw [y, hμ0] at i2; omega
                    · exact y
                  rcases hmin with hm | hm
                  · have := prefix_walk (R := R) (K := K) hμ0 (fun i hi => (hmem i hi).2.1) (fun i hi h => (hmem i hi).2.2 h) hwalk i k i1 (by rw [i2]; exact hc)
                    rw [hm (k + i) (by omega)] at this
                    cases this
                  · have h1 : cwB R K f (k + 1) (μ (had - 1)) = true := cwB_iff.mpr ⟨o, by omega, by omega, hc, hR⟩
                    have := prefix_walk (R := R) (K := K) hμ0 (fun i hi => (hmem i hi).2.1) (fun i hi h => (hmem i hi).2.2 h) hwalk (had - 1) (k + 1) (by omega) h1
                    rw [show k + 1 + (had - 1) = s - 1 by omega, hm] at this
                    cases this
              · rw [show bt used o = 0 by omega, if_pos (show nI 0 = 0 from rfl), wrI_n _ _ (by omega) (by decide), bd, nI_1, one_sh (by omega), nI_or]
                have hus2 : used ||| 2 ^ o < 2 ^ 8 := Nat.or_lt_two_pow hus (Nat.pow_lt_pow_right (by decide) (by omega))
                obtain ⟨res, mem', r1, r2, r3, r4⟩ := ih (had + 1) (upd mem had (nI o)) (upN μ had o) (used ||| 2 ^ o) (by omega) (by omega) (by omega) (fun i hi => by
                    by_cases e : i = had
                    · rw [e, pk_us, upN_s]; exact ⟨rfl, by omega, fun _ => by omega⟩
                    · rw [pk_un e, upN_n e, q4 i (by omega)]; exact hmem i (by omega))
                  (by rw [upN_n (by omega)]; exact hμ0)
                  (fun i hi => by
                    by_cases e : i + 1 = had
                    · rw [upN_n (by omega), show upN μ had o (i + 1) = o by rw [e]; exact upN_s, show i = had - 1 by omega]; exact hR
                    · rw [upN_n (by omega), upN_n e]; exact hwalk i (by omega)) hus2
                  (fun y hy => by
                    rw [bt_set]
                    by_cases e : y = o
                    · rw [if_pos e]
                      exact ⟨fun _ => ⟨had, by omega, by rw [upN_s, e]⟩, fun _ => rfl⟩
                    · rw [if_neg e, hbt y hy]
                      constructor
                      · rintro ⟨i, i1, i2⟩
                        exact ⟨i, by omega, by rw [upN_n (by omega)]; exact i2⟩
                      · rintro ⟨i, i1, i2⟩
                        by_cases e2 : i = had
                        · rw [e2, upN_s] at i2; exact absurd i2.symm e
                        · exact ⟨i, by omega, by rw [upN_n e2] at i2; exact i2⟩)
                rw [show had + 1 - 1 = had by omega, upN_s, show s - (had + 1) = k by omega] at r3 r4
                rw [r1, bd]
                simp only
                by_cases hc : cwB R K f k o = true
                · obtain ⟨r5, r6⟩ := r3 hc
                  rw [r5, if_neg one_ne]
                  have hnx : nxB R K f k (μ (had - 1)) = o := frst_eq (by omega) (by simp only [Bool.and_eq_true, decide_eq_true_eq]; exact ⟨by omega, hR, hc⟩) (fun o' ho' => by
                    by_cases hfo : f < o'
                    · rw [q5 o' hfo ho']; simp
                    · simp [hfo])
                  refine ⟨1, mem', rfl, fun i hi => by rw [r2 i (by omega), pk_un (by omega)]; exact q4 i hi, fun _ => ⟨rfl, fun j hj => ?_⟩, fun z => ?_⟩
                  · cases j with
                    | zero => rw [Nat.add_zero, r2 had (by omega), pk_us, grB, hnx]
                    | succ j =>
                      rw [grB, hnx, show had + (j + 1) = had + 1 + j by omega]
                      exact r6 j (by omega)
                  · have : cwB R K f (k + 1) (μ (had - 1)) = true := cwB_iff.mpr ⟨o, by omega, by omega, hc, hR⟩
                    rw [z] at this; cases this
                · have hcf : cwB R K f k o = false := by simpa using hc
                  rw [r4 hcf, if_pos rfl, nI_1]
                  exact ihn (o + 1) mem' (by omega) (by omega) (by omega) (fun i hi => by rw [r2 i (by omega), pk_un (by omega)]; exact q4 i hi) (fun o' p1 p2 => by
                    rcases Nat.lt_or_ge o' o with z | z
                    · exact q5 o' p1 z
                    · rw [show o' = o by omega, hcf]; simp)
            · have hRf : R (μ (had - 1)) o = false := by simpa using hR
              rw [if_neg hR, if_neg (by decide)]
              exact hskip (by rw [hRf]; rfl)
      exact loop N (f + 1) members (Nat.le_refl _) (by omega) (by omega) (fun _ _ => rfl) (fun o' p1 p2 => by omega)
    · have hsh2 : s = had := by omega
      rw [if_neg (nI_nlt (by omega) (by omega)), show (0 : Int32) = nI 0 from rfl, rdI_n _ (by omega) (by decide), bd, z1, hμ0, hbit f hf, show s - had = 0 by omega]
      rw [cwB]
      by_cases hR : R (μ (had - 1)) f = true
      · rw [if_pos hR, if_pos (show nI 1 = 1 from rfl)]
        exact ⟨_, members, rfl, fun _ _ => rfl, fun _ => ⟨rfl, fun j hj => absurd hj (Nat.not_lt_zero j)⟩, fun z => by rw [hR] at z; cases z⟩
      · rw [if_neg hR, if_neg (show ¬ nI 0 = 1 by decide)]
        exact ⟨_, members, rfl, fun _ _ => rfl, fun z => absurd z hR, fun _ => rfl⟩
end RING1
