/-! fractions in lowest terms -/
section FRAC
variable {N : Nat}
theorem tf_44 {fa fb : Int64} {a b g : Nat} (ha : a < 2 ^ 31) (hb : b < 2 ^ 31) (hg : 0 < g) (hgl : g < 2 ^ 31) : f_X7_tellFraction_44 N fa fb (lN a) (lN b) (lN g) = some (lN (a / g), lN (b / g)) := by
  unfold f_X7_tellFraction_44
  rw [if_neg (fun z => by have := (lN_le (b := 0) hgl (by decide)).mp z; omega), if_neg (fun z => by have := (lN_eq (b := 0) hgl (by decide)).mp z; omega), if_neg (fun z => by have := (lN_eq (b := 0) hgl (by decide)).mp z; omega), pk_lDiv (by omega) hg (by omega), pk_lDiv (by omega) hg (by omega)]
theorem half_rem {a b : Nat} (hb : 0 < b) (h : a % b ≠ 0) : 2 * (b % (a % b)) < b := by
  have h1 : a % b < b := Nat.mod_lt _ hb
  have h2 : b % (a % b) < a % b := Nat.mod_lt _ (by omega)
  have h3 : b % (a % b) + a % b ≤ b := by
    have := Nat.div_add_mod b (a % b)
    have : a % b ≤ a % b * (b / (a % b)) := Nat.le_mul_of_pos_right _ (Nat.div_pos (by omega) (by omega))
    omega
  omega
theorem tf_9 {fa fb : Int64} {x y : Nat} (hx : x < 2 ^ 31) (hy : y < 2 ^ 31) : ∀ (k n i a b : Nat), b < 2 ^ k → a < 2 ^ 31 → b < 2 ^ 31 → 0 < a + b → 2 * k + 1 < n → i + 2 * k ≤ 98 → f_X7_tellFraction_9 N n fa fb (lN x) (lN y) (lN a) (lN b) (nI i) = some (lN (x / Nat.gcd a b), lN (y / Nat.gcd a b))
  | 0, n, i, a, b, hb, ha, hb2, hab, hn, hi => by
    have h0 : b = 0 := by simp at hb; omega
    subst h0
    obtain ⟨n, rfl⟩ : ∃ n', n = n' + 1 := ⟨n - 1, by omega⟩
    rw [f_X7_tellFraction_9, if_neg (show ¬ (100 : Int32) ≤ nI i from nI_ge (b := 100) (by omega) (by decide)), if_pos (show lN 0 = 0 from rfl), tf_44 hx hy (by omega) ha, Nat.gcd_zero_right]
  | k + 1, n, i, a, b, hb, ha, hb2, hab, hn, hi => by
    obtain ⟨n, rfl⟩ : ∃ n', n = n' + 1 := ⟨n - 1, by omega⟩
    rw [f_X7_tellFraction_9, if_neg (show ¬ (100 : Int32) ≤ nI i from nI_ge (b := 100) (by omega) (by decide))]
    by_cases h0 : b = 0
    · subst h0
      rw [if_pos (show lN 0 = 0 from rfl), tf_44 hx hy (by omega) ha, Nat.gcd_zero_right]
    · have hne : ¬ lN b = 0 := fun z => by have := (lN_eq (b := 0) hb2 (by decide)).mp z; omega
      have hm : a % b < b := Nat.mod_lt _ (by omega)
      rw [if_neg hne, if_neg hne, pk_lRem (by omega) (by omega) (by omega), nI_1]
      obtain ⟨n, rfl⟩ : ∃ n', n = n' + 1 := ⟨n - 1, by omega⟩
      have hgcd : Nat.gcd a b = Nat.gcd b (a % b) := by rw [Nat.gcd_comm a b, Nat.gcd_rec b a, Nat.gcd_comm]
      by_cases h1 : a % b = 0
      · rw [f_X7_tellFraction_9, if_neg (show ¬ (100 : Int32) ≤ nI (i + 1) from nI_ge (b := 100) (by omega) (by decide)), h1, if_pos (show lN 0 = 0 from rfl), tf_44 hx hy (by omega) hb2, hgcd, h1, Nat.gcd_zero_right]
      · have hne1 : ¬ lN (a % b) = 0 := fun z => by have := (lN_eq (b := 0) (by omega) (by decide)).mp z; omega
        have hh := half_rem (a := a) (show 0 < b by omega) h1
        have hgcd2 : Nat.gcd b (a % b) = Nat.gcd (a % b) (b % (a % b)) := by rw [Nat.gcd_comm b (a % b), Nat.gcd_rec (a % b) b, Nat.gcd_comm]
        rw [f_X7_tellFraction_9, if_neg (show ¬ (100 : Int32) ≤ nI (i + 1) from nI_ge (b := 100) (by omega) (by decide)), if_neg hne1, if_neg hne1, pk_lRem (by omega) (by omega) (by omega), nI_1, hgcd, hgcd2]
        rw [Nat.pow_succ] at hb
        exact tf_9 hx hy k n (i + 1 + 1) (a % b) (b % (a % b)) (by omega) (by omega) (by omega) (by omega) (by omega) (by omega)
theorem tellFraction_ok (hN : 40000 ≤ N) {fa fb : Int64} {x y : Nat} (hx : x < 2 ^ 31) (hy : y < 2 ^ 31) (h : 0 < x + y) : f_X7_tellFraction N fa fb (lN x) (lN y) = some (lN (x / Nat.gcd x y), lN (y / Nat.gcd x y)) := by
  unfold f_X7_tellFraction
  have := tf_9 (N := N) (fa := fa) (fb := fb) hx hy 31 N 0 x y hy hx hy h (by omega) (by omega)
  exact this
theorem dv_6 : ∀ (n a b : Nat), b < n → a < 2 ^ 31 → b < 2 ^ 31 → f_X8_divisor_6 N n (lN a) (lN b) = some (lN (Nat.gcd a b)) := by
  intro n
  induction n with
  | zero => intro a b h; omega
  | succ n ih =>
    intro a b hn ha hb
    rw [f_X8_divisor_6]
    by_cases h0 : b = 0
    · subst h0
      rw [if_pos (show lN 0 = 0 from rfl), Nat.gcd_zero_right]
    · have hne : ¬ lN b = 0 := fun z => by have := (lN_eq (b := 0) hb (by decide)).mp z; omega
      have hm : a % b < b := Nat.mod_lt _ (by omega)
      have hgcd : Nat.gcd a b = Nat.gcd b (a % b) := by rw [Nat.gcd_comm a b, Nat.gcd_rec b a, Nat.gcd_comm]
      rw [if_neg hne, if_neg hne, pk_lRem (by omega) (by omega) (by omega), hgcd]
      exact ih b (a % b) (by omega) hb (by omega)
theorem dv_fuel : ∀ (k n a b : Nat), b < 2 ^ k → 2 * k + 1 < n → a < 2 ^ 31 → b < 2 ^ 31 → f_X8_divisor_6 N n (lN a) (lN b) = some (lN (Nat.gcd a b))
  | 0, n, a, b, hb, hn, ha, hb2 => by
    have h0 : b = 0 := by simp at hb; omega
    subst h0
    obtain ⟨n, rfl⟩ : ∃ n', n = n' + 1 := ⟨n - 1, by omega⟩
    rw [f_X8_divisor_6, if_pos (show lN 0 = 0 from rfl), Nat.gcd_zero_right]
  | k + 1, n, a, b, hb, hn, ha, hb2 => by
    obtain ⟨n, rfl⟩ : ∃ n', n = n' + 1 := ⟨n - 1, by omega⟩
    rw [f_X8_divisor_6]
    by_cases h0 : b = 0
    · subst h0
      rw [if_pos (show lN 0 = 0 from rfl), Nat.gcd_zero_right]
    · have hne : ¬ lN b = 0 := fun z => by have := (lN_eq (b := 0) hb2 (by decide)).mp z; omega
      have hm : a % b < b := Nat.mod_lt _ (by omega)
      have hgcd : Nat.gcd a b = Nat.gcd b (a % b) := by rw [Nat.gcd_comm a b, Nat.gcd_rec b a, Nat.gcd_comm]
      rw [if_neg hne, if_neg hne, pk_lRem (by omega) (by omega) (by omega), hgcd]
      obtain ⟨n, rfl⟩ : ∃ n', n = n' + 1 := ⟨n - 1, by omega⟩
      rw [f_X8_divisor_6]
      by_cases h1 : a % b = 0
      · rw [h1, if_pos (show lN 0 = 0 from rfl), Nat.gcd_zero_right]
      · have hne1 : ¬ lN (a % b) = 0 := fun z => by have := (lN_eq (b := 0) (by omega) (by decide)).mp z; omega
        have hh := half_rem (a := a) (show 0 < b by omega) h1
        have hgcd2 : Nat.gcd b (a % b) = Nat.gcd (a % b) (b % (a % b)) := by rw [Nat.gcd_comm b (a % b), Nat.gcd_rec (a % b) b, Nat.gcd_comm]
        rw [if_neg hne1, if_neg hne1, pk_lRem (by omega) (by omega) (by omega), hgcd2]
        rw [Nat.pow_succ] at hb
        exact dv_fuel k n (a % b) (b % (a % b)) (by omega) (by omega) (by omega) (by omega)
theorem tells_ok (hN : 40000 ≤ N) {fa fb : Int64} {x y : Nat} (hx : x < 2 ^ 31) (hy : y < 2 ^ 31) (h : 0 < x + y) : f_X8_tells N fa fb (lN x) (lN y) = some (1, lN (x / Nat.gcd x y), lN (y / Nat.gcd x y)) := by
  unfold f_X8_tells f_X8_divisor
  have hgp : 0 < Nat.gcd x y := by
    rcases Nat.eq_zero_or_pos x with z | z
    · rw [z, Nat.gcd_zero_left]; omega
    · exact Nat.gcd_pos_of_pos_left _ z
  have hgl : Nat.gcd x y < 2 ^ 31 := by
    rcases Nat.eq_zero_or_pos x with z | z
    · rw [z, Nat.gcd_zero_left]; exact hy
    · exact Nat.lt_of_le_of_lt (Nat.gcd_le_left _ z) hx
  have hne : ¬ lN (Nat.gcd x y) = 0 := fun z => by have := (lN_eq (b := 0) hgl (by decide)).mp z; omega
  rw [dv_fuel 31 N x y hy (by omega) hx hy, bd, if_neg hne, if_neg hne, pk_lDiv (by omega) hgp (by omega), pk_lDiv (by omega) hgp (by omega)]
end FRAC
