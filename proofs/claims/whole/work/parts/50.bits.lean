/-! BITS of ints, states of two bits a place -/
theorem nI_or (a b : Nat) : nI a ||| nI b = nI (a ||| b) := by
  apply Int32.toBitVec_inj.1
  show BitVec.ofNat 32 a ||| BitVec.ofNat 32 b = BitVec.ofNat 32 (a ||| b)
  apply BitVec.eq_of_getLsbD_eq
  intro i hi
  simp [hi]
theorem nI_and (a b : Nat) : nI a &&& nI b = nI (a &&& b) := by
  apply Int32.toBitVec_inj.1
  show BitVec.ofNat 32 a &&& BitVec.ofNat 32 b = BitVec.ofNat 32 (a &&& b)
  apply BitVec.eq_of_getLsbD_eq
  intro i hi
  simp [hi]
theorem nI_xor (a b : Nat) : nI a ^^^ nI b = nI (a ^^^ b) := fb_xorI a b
theorem nI_all : (-1 : Int32) = nI 4294967295 := by decide
theorem sh_mod : ∀ q : Fin 32, ((nI q.val &&& 31).toBitVec.smod 32).toNat = q.val := by decide +kernel
theorem sh_1 {q x : Nat} (hq : q < 32) (h : x * 2 ^ q < 2 ^ 32) : nI x <<< (nI q &&& 31) = nI (x * 2 ^ q) := pk_shlN _ q (sh_mod ⟨q, hq⟩) h
theorem sh_r {q n : Nat} (hq : q < 32) (h : n < 2 ^ 31) : nI n >>> (nI q &&& 31) = nI (n / 2 ^ q) := pk_shrN h _ q (sh_mod ⟨q, hq⟩)
theorem nI_2mul (q : Nat) : 2 * nI q = nI (2 * q) := nI_mul 2 q
theorem two_four (q : Nat) : 2 ^ (2 * q) = 4 ^ q := by rw [Nat.pow_mul]
theorem sh_4 {q x : Nat} (hq : q < 16) (h : x * 4 ^ q < 2 ^ 32) : nI x <<< ((2 * nI q) &&& 31) = nI (x * 4 ^ q) := by
  rw [nI_2mul, ← two_four]
  exact sh_1 (by omega) (by rw [two_four]; exact h)
theorem sh_4r {q n : Nat} (hq : q < 16) (h : n < 2 ^ 31) : nI n >>> ((2 * nI q) &&& 31) = nI (n / 4 ^ q) := by
  rw [nI_2mul, ← two_four]
  exact sh_r (by omega) h
theorem and_3 {n : Nat} (h : n < 2 ^ 32) : nI n &&& 3 = nI (n % 4) := pk_andN h 2 (by decide)
theorem and_1 {n : Nat} (h : n < 2 ^ 32) : nI n &&& 1 = nI (n % 2) := pk_andN h 1 (by decide)
theorem p4_le {q n : Nat} (h : q ≤ n) : 4 ^ q ≤ 4 ^ n := Nat.pow_le_pow_right (by decide) h
theorem p4_6 {q : Nat} (h : q < 6) : 4 ^ q ≤ 1024 := p4_le (n := 5) (by omega)
/-- the digit of a state, as the class reads it -/
theorem dig4 {n q : Nat} (hq : q < 6) (h : n < 4096) : (nI n >>> ((2 * nI q) &&& 31)) &&& 3 = nI (d4 n q) := by
  rw [sh_4r (by omega) (by omega), and_3 (Nat.lt_of_le_of_lt (Nat.div_le_self _ _) (by omega))]
  rfl
theorem or_add {a i b : Nat} (h : a < 2 ^ i) : a ||| 2 ^ i * b = a + 2 ^ i * b := by
  rw [Nat.or_comm, ← Nat.two_pow_add_eq_or_of_lt h, Nat.add_comm]
theorem e4_or {σ : Sv} (h : ∀ q, σ q < 4) (q : Nat) : e4 σ q ||| σ q * 4 ^ q = e4 σ (q + 1) := by
  have := e4_lt h q
  rw [← two_four] at this
  rw [e4, Nat.mul_comm (σ q), ← two_four]
  exact or_add this
theorem d4_lt (n q : Nat) : d4 n q < 4 := Nat.mod_lt _ (by decide)
/-- digit by digit -/
theorem d4_and (a b q : Nat) : d4 (a &&& b) q = d4 a q &&& d4 b q := by
  unfold d4
  rw [← two_four, Nat.and_div_two_pow, show (4 : Nat) = 2 ^ 2 from rfl, Nat.and_mod_two_pow]
theorem d4_or (a b q : Nat) : d4 (a ||| b) q = d4 a q ||| d4 b q := by
  unfold d4
  rw [← two_four, Nat.or_div_two_pow, show (4 : Nat) = 2 ^ 2 from rfl, Nat.or_mod_two_pow]
theorem d4_xor (a b q : Nat) : d4 (a ^^^ b) q = d4 a q ^^^ d4 b q := by
  unfold d4
  rw [← two_four, Nat.xor_div_two_pow, show (4 : Nat) = 2 ^ 2 from rfl, Nat.xor_mod_two_pow]
theorem d4_all {q : Nat} (h : q < 6) : d4 4294967295 q = 3 := by
  have : ∀ q : Fin 6, d4 4294967295 q.val = 3 := by decide
  exact this ⟨q, h⟩
theorem d4_4095 {q : Nat} (h : q < 6) : d4 4095 q = 3 := by
  have : ∀ q : Fin 6, d4 4095 q.val = 3 := by decide
  exact this ⟨q, h⟩
theorem d4_half (a q : Nat) : d4 (a / 2) q % 2 = d4 a q / 2 := by
  unfold d4
  rw [Nat.div_div_eq_div_mul, Nat.mul_comm, ← Nat.div_div_eq_div_mul]
  generalize a / 4 ^ q = x
  omega
theorem d4_take {s q j : Nat} (h : 0 < d4 s q) : d4 (s - 4 ^ q) j = dec (d4 s) q j := by
  have hp : 0 < 4 ^ q := Nat.pow_pos (by decide)
  have hle : 4 ^ q ≤ s := by
    rcases Nat.lt_or_ge s (4 ^ q) with z | z
    · unfold d4 at h
      rw [Nat.div_eq_of_lt z] at h
      exact absurd h (Nat.lt_irrefl _)
    · exact z
  obtain ⟨m, hm⟩ : ∃ m, s / 4 ^ q = m + 1 := ⟨s / 4 ^ q - 1, by have := Nat.div_pos hle hp; omega⟩
  obtain ⟨r, hr, e⟩ : ∃ r, r < 4 ^ q ∧ s = 4 ^ q * (m + 1) + r := ⟨s % 4 ^ q, Nat.mod_lt _ hp, by rw [← hm]; exact (Nat.div_add_mod s _).symm⟩
  have e2 : s - 4 ^ q = 4 ^ q * m + r := by rw [e, Nat.mul_add, Nat.mul_one]; omega
  have hm4 : 0 < (m + 1) % 4 := by
    unfold d4 at h; rw [hm] at h; exact h
  unfold dec
  rcases Nat.lt_trichotomy j q with z | z | z
  · rw [if_neg (by omega)]
    obtain ⟨d, hd⟩ : ∃ d, q = j + 1 + d := ⟨q - (j + 1), by omega⟩
    have ea : ∀ x, d4 (4 ^ q * x + r) j = d4 r j := by
      intro x
      unfold d4
      have : 4 ^ q * x + r = r + 4 ^ j * (4 * (4 ^ d * x)) := by
        rw [hd, Nat.pow_add, Nat.pow_succ]
        simp only [Nat.mul_assoc, Nat.add_comm]
      rw [this, Nat.add_mul_div_left _ _ (Nat.pow_pos (by decide)), Nat.add_mul_mod_self_left]
    rw [e2, ea, e, ea]
  · subst z
    rw [if_pos rfl, e2, e]
    unfold d4
    rw [Nat.add_comm, Nat.add_mul_div_left _ _ hp, Nat.div_eq_of_lt hr, Nat.zero_add, Nat.add_comm (4 ^ j * (m + 1)), Nat.add_mul_div_left _ _ hp, Nat.div_eq_of_lt hr, Nat.zero_add]
    omega
  · rw [if_neg (by omega)]
    obtain ⟨d, hd⟩ : ∃ d, j = q + 1 + d := ⟨j - (q + 1), by omega⟩
    have ea : ∀ x, d4 (4 ^ q * x + r) j = d4 (x / 4) d := by
      intro x
      unfold d4
      rw [hd, Nat.pow_add, Nat.pow_succ, Nat.mul_assoc, ← Nat.div_div_eq_div_mul, Nat.add_comm, Nat.add_mul_div_left _ _ hp, Nat.div_eq_of_lt hr, Nat.zero_add, ← Nat.div_div_eq_div_mul]
    rw [e2, ea, e, ea, show m / 4 = (m + 1) / 4 by omega]
/-- bit by bit -/
def bt (n i : Nat) : Nat := n / 2 ^ i % 2
theorem bt_lt (n i : Nat) : bt n i < 2 := Nat.mod_lt _ (by decide)
theorem bit1 {n i : Nat} (hi : i < 31) (h : n < 2 ^ 31) : (nI n >>> (nI i &&& 31)) &&& 1 = nI (bt n i) := by
  rw [sh_r (by omega) h, and_1 (Nat.lt_of_le_of_lt (Nat.div_le_self _ _) (by omega))]
  rfl
theorem one_sh {i : Nat} (hi : i < 31) : (1 : Int32) <<< (nI i &&& 31) = nI (2 ^ i) := by
  have h : 2 ^ i ≤ 2 ^ 30 := Nat.pow_le_pow_right (by decide) (by omega)
  have := sh_1 (q := i) (x := 1) (by omega) (by omega)
  rw [Nat.one_mul] at this
  exact this
/-- a set as bits -/
def em (f : Nat → Bool) : Nat → Nat
  | 0 => 0
  | n + 1 => em f n + (if f n then 2 ^ n else 0)
theorem em_lt (f : Nat → Bool) : ∀ n, em f n < 2 ^ n
  | 0 => Nat.one_pos
  | n + 1 => by
    have := em_lt f n
    rw [em, Nat.pow_succ]
    split <;> omega
theorem em_or (f : Nat → Bool) (n : Nat) : em f n ||| 2 ^ n = em f n + 2 ^ n := by
  have := or_add (b := 1) (em_lt f n)
  rw [Nat.mul_one] at this
  exact this
theorem bt_em (f : Nat → Bool) : ∀ n i, i < n → bt (em f n) i = if f i then 1 else 0
  | 0, i, h => absurd h (Nat.not_lt_zero i)
  | n + 1, i, h => by
    have hl := em_lt f n
    have hp : 0 < 2 ^ n := Nat.pow_pos (by decide)
    rw [em]
    rcases Nat.lt_or_ge i n with z | z
    · rw [← bt_em f n i z]
      obtain ⟨d, hd⟩ : ∃ d, n = i + 1 + d := ⟨n - (i + 1), by omega⟩
      unfold bt
      split
      · have e : (2 : Nat) ^ n = 2 ^ i * (2 * 2 ^ d) := by rw [hd, Nat.pow_add, Nat.pow_succ, Nat.mul_assoc]
        rw [e, Nat.add_mul_div_left _ _ (Nat.pow_pos (by decide)), Nat.add_mul_mod_self_left]
      · rw [Nat.add_zero]
    · have : i = n := by omega
      subst this
      unfold bt
      split
      · rw [Nat.add_div_right _ hp, Nat.div_eq_of_lt hl]
      · rw [Nat.add_zero, Nat.div_eq_of_lt hl]
theorem em_cong {f g : Nat → Bool} : ∀ {n : Nat}, (∀ i, i < n → f i = g i) → em f n = em g n
  | 0, _ => rfl
  | n + 1, h => by rw [em, em, em_cong (fun i hi => h i (by omega)), h n (by omega)]
theorem bt_ge {n i m : Nat} (h : n < 2 ^ m) (hi : m ≤ i) : bt n i = 0 := by
  unfold bt
  rw [Nat.div_eq_of_lt (Nat.lt_of_lt_of_le h (Nat.pow_le_pow_right (by decide) hi))]
theorem bt_tb (n i : Nat) : bt n i = if n.testBit i then 1 else 0 := by
  unfold bt
  rw [Nat.testBit_eq_decide_div_mod_eq]
  have : n / 2 ^ i % 2 < 2 := Nat.mod_lt _ (by decide)
  split <;> rename_i h <;> simp at h <;> omega
theorem bt_or (a b i : Nat) : bt (a ||| b) i = 1 ↔ bt a i = 1 ∨ bt b i = 1 := by
  rw [bt_tb, bt_tb, bt_tb, Nat.testBit_or]
  cases a.testBit i <;> cases b.testBit i <;> simp
theorem bt_set (n j i : Nat) : bt (n ||| 2 ^ j) i = if i = j then 1 else bt n i := by
  rw [bt_tb, bt_tb, fb_bit_set]
  by_cases h : i = j <;> simp [h]
theorem bt_inj : ∀ (m a b : Nat), a < 2 ^ m → b < 2 ^ m → (∀ i, i < m → bt a i = bt b i) → a = b
  | 0, a, b, ha, hb, _ => by simp at ha hb; omega
  | n + 1, a, b, ha, hb, h => by
    have h0 := h 0 (by omega)
    unfold bt at h0
    simp only [Nat.pow_zero, Nat.div_one] at h0
    have ih := bt_inj n (a / 2) (b / 2) (by rw [Nat.div_lt_iff_lt_mul (by decide), ← Nat.pow_succ]; exact ha) (by rw [Nat.div_lt_iff_lt_mul (by decide), ← Nat.pow_succ]; exact hb) (fun q hq => by
      have := h (q + 1) (by omega)
      unfold bt at this ⊢
      rw [Nat.div_div_eq_div_mul, Nat.div_div_eq_div_mul, ← Nat.pow_succ']
      exact this)
    omega
