/-! seats beyond those who can still take one don't matter -/
theorem fo_congr {f f' : Nat → Bw} : ∀ {n : Nat}, (∀ o, o < n → f o = f' o) → fo f n = fo f' n
  | 0, _ => rfl
  | n + 1, h => by rw [fo, fo, fo_congr (fun o ho => h o (by omega)), h n (by omega)]
def tkr : List Row → Nat → Nat
  | [], _ => 0
  | g :: t, q => tkr t q + (if g (q + 1) = none then 0 else 1)
theorem bw_clip (P : Nat) : ∀ (t : List Row) (σ σ' : Sv), (∀ q, q < P → min (σ q) (tkr t q) = min (σ' q) (tkr t q)) → bw P t σ = bw P t σ'
  | [], _, _, _ => rfl
  | g :: t, σ, σ', h => by
    rw [bw_cons, bw_cons]
    have hlow : ∀ q, q < P → min (σ q) (tkr t q) = min (σ' q) (tkr t q) := by
      intro q hq
      have := h q hq
      unfold tkr at this
      split at this <;> omega
    refine fo_congr fun o ho => ?_
    unfold cv
    cases hg : g o with
    | none => rfl
    | some γ =>
      simp only
      cases o with
      | zero =>
        show (bw P t σ).map _ = (bw P t σ').map _
        rw [bw_clip P t σ σ' hlow]
      | succ q =>
        have hq := h q (by omega)
        unfold tkr at hq
        rw [hg] at hq
        rw [if_neg (by intro z; cases z)] at hq
        unfold tk
        simp only
        by_cases h0 : 0 < σ q
        · rw [if_pos h0, if_pos (by omega)]
          simp only
          rw [bw_clip P t (dec σ q) (dec σ' q) (fun j hj => ?_)]
          unfold dec
          by_cases hjq : j = q
          · subst hjq
            rw [if_pos rfl, if_pos rfl]; omega
          · rw [if_neg hjq, if_neg hjq]; exact hlow j hj
        · rw [if_neg h0, if_neg (by omega)]
/-- a class's state: two bits a place -/
def d4 (n : Nat) : Sv := fun q => n / 4 ^ q % 4
def e4 (σ : Sv) : Nat → Nat
  | 0 => 0
  | q + 1 => e4 σ q + σ q * 4 ^ q
theorem e4_lt {σ : Sv} (h : ∀ q, σ q < 4) : ∀ n, e4 σ n < 4 ^ n
  | 0 => Nat.one_pos
  | n + 1 => by
    have ih := e4_lt h n
    have h4 := h n
    rw [e4, Nat.pow_succ]
    have : σ n * 4 ^ n ≤ 3 * 4 ^ n := Nat.mul_le_mul_right _ (by omega)
    omega
theorem d4_e4 {σ : Sv} (h : ∀ q, σ q < 4) : ∀ n q, q < n → d4 (e4 σ n) q = σ q
  | 0, q, hq => absurd hq (Nat.not_lt_zero q)
  | n + 1, q, hq => by
    have hl := e4_lt h n
    unfold d4
    rw [e4]
    rcases Nat.lt_or_ge q n with z | z
    · have ih := d4_e4 h n q z
      unfold d4 at ih
      obtain ⟨d, hd⟩ : ∃ d, n = q + 1 + d := ⟨n - (q + 1), by omega⟩
      have e : σ n * 4 ^ n = 4 ^ q * (4 * (σ n * 4 ^ d)) := by
        rw [hd, Nat.pow_add, Nat.pow_succ]
        simp only [Nat.mul_left_comm, Nat.mul_assoc, Nat.mul_comm]
      rw [e, Nat.add_mul_div_left _ _ (Nat.pow_pos (by decide)), Nat.add_mul_mod_self_left]
      exact ih
    · have : q = n := by omega
      subst this
      rw [Nat.add_mul_div_right _ _ (Nat.pow_pos (by decide)), Nat.div_eq_of_lt hl, Nat.zero_add, Nat.mod_eq_of_lt (h q)]
/-- two states below 4 ^ n that agree in all places are one -/
theorem d4_inj : ∀ (n a b : Nat), a < 4 ^ n → b < 4 ^ n → (∀ q, q < n → d4 a q = d4 b q) → a = b
  | 0, a, b, ha, hb, _ => by simp at ha hb; omega
  | n + 1, a, b, ha, hb, h => by
    have h0 := h 0 (by omega)
    unfold d4 at h0
    simp only [Nat.pow_zero, Nat.div_one] at h0
    have ih := d4_inj n (a / 4) (b / 4) (by rw [Nat.div_lt_iff_lt_mul (by decide), ← Nat.pow_succ]; exact ha) (by rw [Nat.div_lt_iff_lt_mul (by decide), ← Nat.pow_succ]; exact hb) (fun q hq => by
      have := h (q + 1) (by omega)
      unfold d4 at this ⊢
      rw [Nat.div_div_eq_div_mul, Nat.div_div_eq_div_mul, ← Nat.pow_succ']
      exact this)
    omega
