/-! the reference's states: numbers in mixed radix -/
def wgt (S : Nat → Nat) : Nat → Nat
  | 0 => 1
  | q + 1 => wgt S q * (S q + 1)
def dig (S : Nat → Nat) (s : Nat) : Sv := fun q => s / wgt S q % (S q + 1)
theorem wgt_pos (S : Nat → Nat) : ∀ q, 0 < wgt S q
  | 0 => Nat.one_pos
  | q + 1 => Nat.mul_pos (wgt_pos S q) (Nat.succ_pos _)
theorem wgt_mul (S : Nat → Nat) (j : Nat) : ∀ d, ∃ c, wgt S (j + d) = wgt S j * c
  | 0 => ⟨1, (Nat.mul_one _).symm⟩
  | d + 1 => by
    obtain ⟨c, hc⟩ := wgt_mul S j d
    exact ⟨c * (S (j + d) + 1), by rw [← Nat.add_assoc, wgt, hc, Nat.mul_assoc]⟩
theorem wgt_lt (S : Nat → Nat) {j q : Nat} (h : j < q) : ∃ c, wgt S q = wgt S j * ((S j + 1) * c) := by
  obtain ⟨c, hc⟩ := wgt_mul S (j + 1) (q - (j + 1))
  rw [show j + 1 + (q - (j + 1)) = q from by omega] at hc
  exact ⟨c, by rw [hc, wgt, Nat.mul_assoc]⟩
theorem mod_pred {m r : Nat} (hr : 0 < r) (h : 0 < m % r) : (m - 1) % r = m % r - 1 ∧ (m - 1) / r = m / r := by
  have hm := Nat.div_add_mod m r
  have hl := Nat.mod_lt m hr
  have e : m - 1 = r * (m / r) + (m % r - 1) := by omega
  constructor
  · rw [e, Nat.mul_add_mod, Nat.mod_eq_of_lt (by omega)]
  · rw [e, Nat.mul_add_div hr, Nat.div_eq_of_lt (show m % r - 1 < r by omega), Nat.add_zero]
theorem dig_sub {S : Nat → Nat} {s q : Nat} (h : 0 < dig S s q) : dig S (s - wgt S q) = dec (dig S s) q := by
  funext j
  unfold dec
  have hw := wgt_pos S q
  have hge : wgt S q ≤ s := by
    rcases Nat.lt_or_ge s (wgt S q) with z | z
    · unfold dig at h
      rw [Nat.div_eq_of_lt z, Nat.zero_mod] at h
      exact absurd h (Nat.lt_irrefl _)
    · exact z
  have hq : (s - wgt S q) / wgt S q = s / wgt S q - 1 := by
    have := Nat.sub_mul_div (a := s) (b := wgt S q) (c := 1)
    rw [Nat.mul_one] at this
    exact this
  obtain ⟨e1, e2⟩ := mod_pred (Nat.succ_pos (S q)) h
  rcases Nat.lt_trichotomy j q with hj | hj | hj
  · rw [if_neg (by omega)]
    obtain ⟨c, hc⟩ := wgt_lt S hj
    have hle : (S j + 1) * c ≤ s / wgt S j := by
      rw [Nat.le_div_iff_mul_le (wgt_pos S j), Nat.mul_comm, ← hc]; exact hge
    show (s - wgt S q) / wgt S j % (S j + 1) = s / wgt S j % (S j + 1)
    rw [hc, Nat.sub_mul_div]
    exact Nat.sub_mul_mod hle
  · subst hj
    rw [if_pos rfl]
    show (s - wgt S j) / wgt S j % (S j + 1) = s / wgt S j % (S j + 1) - 1
    rw [hq, e1]
  · rw [if_neg (by omega)]
    obtain ⟨c, hc⟩ := wgt_lt S hj
    show (s - wgt S q) / wgt S j % (S j + 1) = s / wgt S j % (S j + 1)
    rw [hc, ← Nat.div_div_eq_div_mul, ← Nat.div_div_eq_div_mul, ← Nat.div_div_eq_div_mul, hq, e2, ← Nat.div_div_eq_div_mul]
theorem wgt_le (S : Nat → Nat) (hS : ∀ q, q < 6 → S q ≤ 3) : ∀ q, q ≤ 6 → wgt S q ≤ 4 ^ q
  | 0, _ => Nat.le_refl _
  | q + 1, h => by
    rw [wgt, Nat.pow_succ]
    exact Nat.mul_le_mul (wgt_le S hS q (by omega)) (by have := hS q (by omega); omega)
theorem wgt_le6 (S : Nat → Nat) (hS : ∀ q, q < 6 → S q ≤ 3) {q : Nat} (h : q ≤ 6) : wgt S q ≤ 4096 :=
  Nat.le_trans (wgt_le S hS q h) (by
    rcases (show q = 0 ∨ q = 1 ∨ q = 2 ∨ q = 3 ∨ q = 4 ∨ q = 5 ∨ q = 6 by omega) with e | e | e | e | e | e | e <;> subst e <;> decide)
theorem wgt_mono (S : Nat → Nat) {j q : Nat} (h : j ≤ q) : wgt S j ≤ wgt S q := by
  obtain ⟨c, hc⟩ := wgt_mul S j (q - j)
  rw [show j + (q - j) = q from by omega] at hc
  rw [hc]
  have h1 := wgt_pos S q
  have h2 : 0 < c := by
    rcases Nat.eq_zero_or_pos c with z | z
    · rw [hc, z, Nat.mul_zero] at h1; exact absurd h1 (Nat.lt_irrefl _)
    · exact z
  exact Nat.le_mul_of_pos_right _ h2
/-- the full state holds all seats -/
theorem dig_full (S : Nat → Nat) {P q : Nat} (h : q < P) : dig S (wgt S P - 1) q = S q := by
  unfold dig
  obtain ⟨c, hc⟩ := wgt_lt S h
  have hw := wgt_pos S q
  have hc0 : 0 < c := by
    have h1 := wgt_pos S P
    rcases Nat.eq_zero_or_pos c with z | z
    · rw [hc, z, Nat.mul_zero, Nat.mul_zero] at h1; exact absurd h1 (Nat.lt_irrefl _)
    · exact z
  have e1 : (wgt S P - 1) / wgt S q = (S q + 1) * c - 1 := by
    have hx : wgt S P - 1 = wgt S q * ((S q + 1) * c - 1) + (wgt S q - 1) := by
      rw [hc, Nat.mul_sub, Nat.mul_one]
      have : wgt S q ≤ wgt S q * ((S q + 1) * c) := Nat.le_mul_of_pos_right _ (Nat.mul_pos (Nat.succ_pos _) hc0)
      omega
    rw [hx, Nat.mul_add_div hw, Nat.div_eq_of_lt (by omega), Nat.add_zero]
  rw [e1]
  have hx : (S q + 1) * c - 1 = (S q + 1) * (c - 1) + S q := by
    obtain ⟨d, rfl⟩ : ∃ d, c = d + 1 := ⟨c - 1, by omega⟩
    rw [Nat.add_sub_cancel, Nat.mul_succ]; omega
  rw [hx, Nat.mul_add_mod, Nat.mod_eq_of_lt (by omega)]
