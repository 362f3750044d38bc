/-! RING3: the reference's rows of walks and its ring -/
section RING3
variable {N K P : Nat} {S : Nat → Nat} {W T : Nat → Nat → Nat}
/-- rows before k, and row k before a, are filled -/
def CanIs (R : Nat → Nat → Bool) (K f k a : Nat) (can : Nat → Int32) : Prop := ∀ k' a', 1 ≤ k' → k' ≤ 8 → f ≤ a' → a' < K → (k' < k ∨ k' = k ∧ a' < a) → can (k' * 8 + a') = boI (cwB R K f (k' - 1) a')
def stpB (R : Nat → Nat → Bool) (K f k a o : Nat) : Bool := (if k = 1 then decide (o = f) else decide (f < o) && cwB R K f (k - 2) o) && R a o
theorem stpB_iff {R : Nat → Nat → Bool} {f k a : Nat} (hf : f < K) (hk : 1 ≤ k) : (∃ o, f ≤ o ∧ o < K ∧ stpB R K f k a o = true) ↔ cwB R K f (k - 1) a = true := by
  unfold stpB
  by_cases h : k = 1
  · subst h
    simp only [if_true, Bool.and_eq_true, decide_eq_true_eq]
    constructor
    · rintro ⟨o, h1, h2, h3, h4⟩
      rw [h3] at h4
      exact h4
    · intro h
      exact ⟨f, Nat.le_refl _, hf, rfl, h⟩
  · rw [show k - 1 = (k - 2) + 1 by omega, cwB_iff]
    simp only [if_neg h, Bool.and_eq_true, decide_eq_true_eq]
    constructor
    · rintro ⟨o, h1, h2, ⟨h3, h4⟩, h5⟩
      exact ⟨o, h3, h2, h4, h5⟩
    · rintro ⟨o, h1, h2, h3, h4⟩
      exact ⟨o, by omega, h2, ⟨h1, h3⟩, h4⟩
theorem can_ix (k a : Nat) : (8 : Int32) * nI k + nI a = nI (k * 8 + a) := by rw [show (8 : Int32) = nI 8 from rfl, nI_mul, nI_add, Nat.mul_comm]
section CAN
variable {mt mw : Nat → Int32} {m h f s : Nat}
theorem findCan_86_ok (hG : GD K P S W T) (m4 : ∀ a q, a < 8 → q < 6 → mw (a * 6 + q) = nI (W a q)) (m5 : ∀ g a, g < 4 → a < 8 → mt (g * 8 + a) = nI (T g a)) (hm : m < 4) (hh : h < 4) {a o : Nat} (ha : a < 8) (ho : o < 8) {can : Nat → Int32} {v3 v4 v5 : Int32} (b c : Bool) (k28 : (Nat → Int32) → Int32 → Int32 → Int32 → Int32 → Int32 → Int32 → Int32 → Int32 → Option (Int32 × (Nat → Int32))) :
    f_X8_findCan_86 N (nI K) mt mw k28 can (nI m) (nI h) v3 v4 v5 (nI a) (boI b) (nI o) (boI c) = k28 can (nI m) (nI h) v3 v4 v5 (nI a) (boI (b || (c && wntB W T m h a o))) (nI (o + 1)) := by
  unfold f_X8_findCan_86
  cases b with
  | true => rw [if_neg (by decide), nI_1]; rfl
  | false =>
    rw [if_pos (by decide)]
    cases c with
    | false => rw [if_pos (by decide), nI_1]; rfl
    | true =>
      rw [if_neg (by decide), X8_wants_ok hG m4 m5 hm hh ha ho, bd, nI_1]
      cases hc : wntB W T m h a o with
      | false => rw [if_pos (by decide)]; rfl
      | true => rw [if_neg (by decide)]; rfl
theorem findCan_28_ok (hG : GD K P S W T) (m4 : ∀ a q, a < 8 → q < 6 → mw (a * 6 + q) = nI (W a q)) (m5 : ∀ g a, g < 4 → a < 8 → mt (g * 8 + a) = nI (T g a)) (hm : m < 4) (hh : h < 4) (hf : f < K) {k a : Nat} (hk1 : 1 ≤ k) (hk : k ≤ 8) (ha : a < K) {can : Nat → Int32} (hcan : CanIs (wntB W T m h) K f k f can) {v4 : Int32} (k13 : (Nat → Int32) → Int32 → Int32 → Int32 → Int32 → Int32 → Int32 → Option (Int32 × (Nat → Int32))) :
    ∀ (n o : Nat) (b : Bool), f ≤ o → o ≤ K → K - o < n → (b = true ↔ ∃ o', f ≤ o' ∧ o' < o ∧ stpB (wntB W T m h) K f k a o' = true) →
      f_X8_findCan_28 N (nI K) mt mw k13 n can (nI m) (nI h) (nI f) v4 (nI k) (nI a) (boI b) (nI o) = k13 (upd can (k * 8 + a) (boI (cwB (wntB W T m h) K f (k - 1) a))) (nI m) (nI h) (nI f) v4 (nI k) (nI (a + 1)) := by
  have hK := hG.K8
  intro n
  induction n with
  | zero => intro o b h1 h2 h3; omega
  | succ n ih =>
    intro o b h1 h2 h3 hb
    have step : ∀ c : Bool, (c && wntB W T m h a o) = stpB (wntB W T m h) K f k a o → o < K → f_X8_findCan_28 N (nI K) mt mw k13 n can (nI m) (nI h) (nI f) v4 (nI k) (nI a) (boI (b || (c && wntB W T m h a o))) (nI (o + 1)) = k13 (upd can (k * 8 + a) (boI (cwB (wntB W T m h) K f (k - 1) a))) (nI m) (nI h) (nI f) v4 (nI k) (nI (a + 1)) := by
      intro c hc hoK
      refine ih (o + 1) _ (by omega) (by omega) (by omega) ?_
      rw [Bool.or_eq_true, hb, hc]
      constructor
      · rintro (⟨o', p1, p2, p3⟩ | p)
        · exact ⟨o', p1, by omega, p3⟩
        · exact ⟨o, h1, by omega, p⟩
      · rintro ⟨o', p1, p2, p3⟩
        rcases Nat.lt_or_ge o' o with z | z
        · exact Or.inl ⟨o', p1, z, p3⟩
        · exact Or.inr (by rw [← show o' = o by omega]; exact p3)
    rw [f_X8_findCan_28]
    by_cases hc : K ≤ o
    · have : o = K := by omega
      rw [if_pos (nI_le hc (by omega)), can_ix]
      have hbe : b = cwB (wntB W T m h) K f (k - 1) a := by
        rw [this] at hb
        have := hb.trans (stpB_iff hf hk1)
        cases b <;> cases hcw : cwB (wntB W T m h) K f (k - 1) a <;> simp_all
      have hwr : wrZ 72 can (nI (k * 8 + a)) (boI b) = some (upd can (k * 8 + a) (boI b)) := by
        unfold wrZ
        rw [if_neg (nI_in (by omega) (by decide)), nI_clamp (by omega), boI_nar]
      rw [hwr, bd, hbe, nI_1]
    · rw [if_neg (nI_ge (by omega) (by omega))]
      by_cases hk2 : k = 1
      · rw [if_pos (show nI k = 1 by rw [hk2]; rfl)]
        by_cases hof : o = f
        · rw [if_pos (by rw [hof]), show (1 : Int32) = boI true from rfl, findCan_86_ok hG m4 m5 hm hh (by omega) (by omega)]
          exact step true (by unfold stpB; rw [if_pos hk2, decide_eq_true hof]) (by omega)
        · rw [if_neg (nI_ne (by omega) (by omega) hof), show (0 : Int32) = boI false from rfl, findCan_86_ok hG m4 m5 hm hh (by omega) (by omega)]
          exact step false (by unfold stpB; rw [if_pos hk2, decide_eq_false hof]) (by omega)
      · rw [if_neg (show ¬ nI k = 1 from nI_ne (b := 1) (by omega) (by decide) hk2)]
        by_cases hof : o ≤ f
        · rw [if_pos (nI_le hof (by omega)), f_X8_findCan_85, show (0 : Int32) = boI false from rfl, findCan_86_ok hG m4 m5 hm hh (by omega) (by omega)]
          exact step false (by unfold stpB; rw [if_neg hk2, decide_eq_false (by omega)]; rfl) (by omega)
        · rw [if_neg (nI_ge (by omega) (by omega)), show nI k - 1 = nI (k - 1) from pk_sub hk1, can_ix, rdI_n _ (by omega) (by decide), bd, hcan (k - 1) o (by omega) (by omega) (by omega) (by omega) (Or.inl (by omega)), show k - 1 - 1 = k - 2 by omega]
          cases hcw : cwB (wntB W T m h) K f (k - 2) o with
          | false =>
            rw [if_pos (show boI false = 0 from rfl), f_X8_findCan_85, show (0 : Int32) = boI false from rfl, findCan_86_ok hG m4 m5 hm hh (by omega) (by omega)]
            exact step false (by unfold stpB; rw [if_neg hk2, hcw]; simp) (by omega)
          | true =>
            rw [if_neg (show ¬ boI true = 0 by decide), show (1 : Int32) = boI true from rfl, findCan_86_ok hG m4 m5 hm hh (by omega) (by omega)]
            exact step true (by unfold stpB; rw [if_neg hk2, hcw, decide_eq_true (by omega)]; simp) (by omega)
theorem findCan_13_ok (hG : GD K P S W T) (hN : 40000 ≤ N) (m4 : ∀ a q, a < 8 → q < 6 → mw (a * 6 + q) = nI (W a q)) (m5 : ∀ g a, g < 4 → a < 8 → mt (g * 8 + a) = nI (T g a)) (hm : m < 4) (hh : h < 4) (hf : f < K) {k : Nat} (hk1 : 1 ≤ k) (hk : k ≤ 8) {v4 : Int32} (k3 : (Nat → Int32) → Int32 → Int32 → Int32 → Int32 → Int32 → Option (Int32 × (Nat → Int32))) :
    ∀ (n a : Nat) (can : Nat → Int32), f ≤ a → a ≤ K → K - a < n → CanIs (wntB W T m h) K f k a can →
      ∃ can', f_X8_findCan_13 N (nI K) mt mw k3 n can (nI m) (nI h) (nI f) v4 (nI k) (nI a) = k3 can' (nI m) (nI h) (nI f) v4 (nI (k + 1)) ∧ CanIs (wntB W T m h) K f (k + 1) f can' := by
  have hK := hG.K8
  intro n
  induction n with
  | zero => intro a can h1 h2 h3; omega
  | succ n ih =>
    intro a can h1 h2 h3 h4
    rw [f_X8_findCan_13]
    by_cases hc : K ≤ a
    · rw [if_pos (nI_le hc (by omega)), nI_1]
      exact ⟨can, rfl, fun k' a' p1 p2 p3 p4 p5 => h4 k' a' p1 p2 p3 p4 (by omega)⟩
    · rw [if_neg (nI_ge (by omega) (by omega)), show (0 : Int32) = boI false from rfl, findCan_28_ok hG m4 m5 hm hh hf hk1 hk (by omega) (fun k' a' p1 p2 p3 p4 p5 => h4 k' a' p1 p2 p3 p4 (by omega)) _ N f false (Nat.le_refl _) (by omega) (by omega) ⟨fun z => absurd z (by decide), fun ⟨o', p1, p2, _⟩ => by omega⟩]
      exact ih (a + 1) _ (by omega) (by omega) (by omega) (fun k' a' p1 p2 p3 p4 p5 => by
        by_cases e : k' * 8 + a' = k * 8 + a
        · rw [e, pk_us, show k' = k by omega, show a' = a by omega]
        · rw [pk_un e]; exact h4 k' a' p1 p2 p3 p4 (by omega))
theorem findCan_3_ok (hG : GD K P S W T) (hN : 40000 ≤ N) (m4 : ∀ a q, a < 8 → q < 6 → mw (a * 6 + q) = nI (W a q)) (m5 : ∀ g a, g < 4 → a < 8 → mt (g * 8 + a) = nI (T g a)) (hm : m < 4) (hh : h < 4) (hf : f < K) (hs1 : 1 ≤ s) (hs : s ≤ 8) :
    ∀ (n k : Nat) (can : Nat → Int32), 1 ≤ k → k ≤ s + 1 → s + 1 - k < n → CanIs (wntB W T m h) K f k f can →
      ∃ can', f_X8_findCan_3 N (nI K) mt mw n can (nI m) (nI h) (nI f) (nI s) (nI k) = some (boI (cwB (wntB W T m h) K f (s - 1) f), can') ∧ CanIs (wntB W T m h) K f (s + 1) f can' := by
  have hK := hG.K8
  intro n
  induction n with
  | zero => intro k can h1 h2 h3; omega
  | succ n ih =>
    intro k can h1 h2 h3 h4
    rw [f_X8_findCan_3]
    by_cases hc : s < k
    · have e : k = s + 1 := by omega
      rw [if_pos (nI_lt hc (by omega)), can_ix, rdI_n _ (by omega) (by decide), bd, h4 s f hs1 hs (Nat.le_refl _) hf (Or.inl hc), boI_nar, if_neg (fun z => z rfl)]
      exact ⟨can, rfl, e ▸ h4⟩
    · rw [if_neg (nI_nlt (by omega) (by omega))]
      obtain ⟨can1, c1, c2⟩ := findCan_13_ok (N := N) (v4 := nI s) hG hN m4 m5 hm hh hf h1 (show k ≤ 8 by omega) (f_X8_findCan_3 N (nI K) mt mw n) N f can (Nat.le_refl _) (by omega) (by omega) h4
      obtain ⟨can2, c3, c4⟩ := ih (k + 1) can1 (by omega) (by omega) (by omega) c2
      exact ⟨can2, c1.trans c3, c4⟩
end CAN
end RING3
