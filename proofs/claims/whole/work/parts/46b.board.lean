/-! small functions of class and reference -/
theorem ix6 (a q : Nat) : nI a * 6 + nI q = nI (a * 6 + q) := by rw [show (6 : Int32) = nI 6 from rfl, nI_mul, nI_add]
theorem ix6' (a q : Nat) : 6 * nI a + nI q = nI (a * 6 + q) := by rw [show (6 : Int32) = nI 6 from rfl, nI_mul, nI_add, Nat.mul_comm 6 a]
theorem ix8 (a q : Nat) : nI a * 8 + nI q = nI (a * 8 + q) := by rw [show (8 : Int32) = nI 8 from rfl, nI_mul, nI_add]
theorem ix8' (a q : Nat) : 8 * nI a + nI q = nI (a * 8 + q) := by rw [show (8 : Int32) = nI 8 from rfl, nI_mul, nI_add, Nat.mul_comm 8 a]
theorem ix7 (a q : Nat) : nI a * 7 + nI q = nI (a * 7 + q) := by rw [show (7 : Int32) = nI 7 from rfl, nI_mul, nI_add]
theorem ix7' (a q : Nat) : 7 * nI a + nI q = nI (a * 7 + q) := by rw [show (7 : Int32) = nI 7 from rfl, nI_mul, nI_add, Nat.mul_comm 7 a]
theorem ti0 : (0 : Int32).toInt = 0 := by decide
theorem ti1 : (1 : Int32).toInt = 1 := by decide
theorem ti3 : (3 : Int32).toInt = 3 := by decide
theorem ti4 : (4 : Int32).toInt = 4 := by decide
theorem ti6 : (6 : Int32).toInt = 6 := by decide
theorem ti7 : (7 : Int32).toInt = 7 := by decide
theorem ti8 : (8 : Int32).toInt = 8 := by decide
/-- a number is one of 0 .. n - 1 -/
def isN (n : Nat) (x : Int32) : Prop := 0 ≤ x.toInt ∧ x.toInt < n
theorem isN_nI {n j : Nat} (h : j < n) (hn : n < 2 ^ 31) : isN n (nI j) := by
  unfold isN
  rw [nI_toInt (by omega)]
  omega
theorem isN_ex {n : Nat} {x : Int32} (h : isN n x) : ∃ j, j < n ∧ x = nI j := by
  obtain ⟨h1, h2⟩ := h
  refine ⟨x.toInt.toNat, by omega, ?_⟩
  rw [← Int32.toInt_inj, nI_toInt (by have := (fb_rng x).2; omega)]
  omega
theorem X0_isAsker_yes (N : Nat) {K : Nat} (hK : K ≤ 8) {x : Int32} (h : isN K x) : f_X0_isAsker N (nI K) x = some 1 := by
  obtain ⟨h1, h2⟩ := h
  have hk := nI_toInt (n := K) (by omega)
  unfold f_X0_isAsker
  simp only [Int32.lt_iff_toInt_lt, Int32.le_iff_toInt_le, hk, ti0, ti8]
  rw [if_neg (by omega), if_neg (by omega), if_neg (by omega)]
theorem X0_isAsker_no (N : Nat) {K : Nat} (hK : K ≤ 8) {x : Int32} (h : ¬ isN K x) : f_X0_isAsker N (nI K) x = some 0 := by
  unfold isN at h
  have hk := nI_toInt (n := K) (by omega)
  unfold f_X0_isAsker
  simp only [Int32.lt_iff_toInt_lt, Int32.le_iff_toInt_le, hk, ti0, ti8]
  by_cases h1 : x.toInt < 0
  · rw [if_pos h1]
  · rw [if_neg h1, if_pos (by omega)]
theorem X0_isPlace_yes (N : Nat) {P : Nat} (hP : P ≤ 6) {x : Int32} (h : isN P x) : f_X0_isPlace N (nI P) x = some 1 := by
  obtain ⟨h1, h2⟩ := h
  have hk := nI_toInt (n := P) (by omega)
  unfold f_X0_isPlace
  simp only [Int32.lt_iff_toInt_lt, Int32.le_iff_toInt_le, hk, ti0, ti6]
  rw [if_neg (by omega), if_neg (by omega), if_neg (by omega)]
theorem X0_isPlace_no (N : Nat) {P : Nat} (hP : P ≤ 6) {x : Int32} (h : ¬ isN P x) : f_X0_isPlace N (nI P) x = some 0 := by
  unfold isN at h
  have hk := nI_toInt (n := P) (by omega)
  unfold f_X0_isPlace
  simp only [Int32.lt_iff_toInt_lt, Int32.le_iff_toInt_le, hk, ti0, ti6]
  by_cases h1 : x.toInt < 0
  · rw [if_pos h1]
  · rw [if_neg h1, if_pos (by omega)]
theorem X8_in_yes (N : Nat) {x a b : Int32} (h : a.toInt ≤ x.toInt ∧ x.toInt ≤ b.toInt) : f_X8_in N x a b = some 1 := by
  unfold f_X8_in
  simp only [Int32.lt_iff_toInt_lt]
  rw [if_neg (by omega), if_neg (by omega)]
theorem X8_in_no (N : Nat) {x a b : Int32} (h : ¬ (a.toInt ≤ x.toInt ∧ x.toInt ≤ b.toInt)) : f_X8_in N x a b = some 0 := by
  unfold f_X8_in
  simp only [Int32.lt_iff_toInt_lt]
  by_cases h1 : x.toInt < a.toInt
  · rw [if_pos h1]
  · rw [if_neg h1, if_pos (by omega)]
theorem nI_m1_toInt {n : Nat} (h : n < 2 ^ 31) : (nI n - 1).toInt = (n : Int) - 1 := oI_toInt h
theorem X8_isAsker_yes (N : Nat) {K : Nat} (hK : K ≤ 8) {x : Int32} (h : isN K x) : f_X8_isAsker N (nI K) x = some 1 := by
  obtain ⟨h1, h2⟩ := h
  unfold f_X8_isAsker
  rw [X8_in_yes N (by rw [nI_m1_toInt (by omega), ti0]; omega), bd, z_1]
  rfl
theorem X8_isAsker_no (N : Nat) {K : Nat} (hK : K ≤ 8) {x : Int32} (h : ¬ isN K x) : f_X8_isAsker N (nI K) x = some 0 := by
  unfold isN at h
  unfold f_X8_isAsker
  rw [X8_in_no N (by rw [nI_m1_toInt (by omega), ti0]; omega), bd, z_0]
  rfl
theorem X8_isPlace_yes (N : Nat) {P : Nat} (hP : P ≤ 6) {x : Int32} (h : isN P x) : f_X8_isPlace N (nI P) x = some 1 := by
  obtain ⟨h1, h2⟩ := h
  unfold f_X8_isPlace
  rw [X8_in_yes N (by rw [nI_m1_toInt (by omega), ti0]; omega), bd, z_1]
  rfl
theorem X8_isPlace_no (N : Nat) {P : Nat} (hP : P ≤ 6) {x : Int32} (h : ¬ isN P x) : f_X8_isPlace N (nI P) x = some 0 := by
  unfold isN at h
  unfold f_X8_isPlace
  rw [X8_in_no N (by rw [nI_m1_toInt (by omega), ti0]; omega), bd, z_0]
  rfl
theorem X8_isTold_yes (N : Nat) {x : Int32} (h : isN 4 x) : f_X8_isTold N x = some 1 := by
  obtain ⟨h1, h2⟩ := h
  unfold f_X8_isTold
  rw [X8_in_yes N (by rw [ti3, ti0]; omega), bd, z_1]
  rfl
theorem X8_isTold_no (N : Nat) {x : Int32} (h : ¬ isN 4 x) : f_X8_isTold N x = some 0 := by
  unfold isN at h
  unfold f_X8_isTold
  rw [X8_in_no N (by rw [ti3, ti0]; omega), bd, z_0]
  rfl
theorem wo_le (W : Nat → Nat → Nat) (hW : ∀ a q, W a q ≤ 6) (a o : Nat) : wo W a o ≤ 8 ∧ 1 ≤ wo W a o := by
  cases o with
  | zero => exact ⟨leb rfl, leb rfl⟩
  | succ q =>
    have := hW a q
    unfold wo
    simp only
    split <;> omega
theorem X0_worthOf_ok (N : Nat) {W : Nat → Nat → Nat} (hW : ∀ a q, W a q ≤ 6) {wishes : Nat → Int32} (hw : ∀ a q, a < 8 → q < 6 → wishes (a * 6 + q) = nI (W a q)) {a o : Nat} (ha : a < 8) (ho : o ≤ 6) : f_X0_worthOf N wishes (nI a) (oI o) = some (nI (wo W a o)) := by
  unfold f_X0_worthOf
  cases o with
  | zero => rw [oI_0, if_pos (by decide)]; rfl
  | succ q =>
    rw [oI_s, if_neg (nI_pos (by omega)), if_pos (show nI q < 6 from nI_lt (b := 6) (by omega) (by decide)), ix6, rdI_n _ (by omega) (by decide), bd, hw a q ha (by omega)]
    have h6 := hW a q
    unfold wo
    simp only
    by_cases h0 : W a q = 0
    · rw [if_pos h0, h0, if_pos (show nI 0 = 0 from rfl)]; rfl
    · rw [if_neg h0, if_neg (nI_ne0 (by omega) (by omega))]
theorem X8_worthOf_ok (N : Nat) {W : Nat → Nat → Nat} (hW : ∀ a q, W a q ≤ 6) {wish : Nat → Int32} (hw : ∀ a q, a < 8 → q < 6 → wish (a * 6 + q) = nI (W a q)) {a o : Nat} (ha : a < 8) (ho : o ≤ 6) : f_X8_worthOf N wish (nI a) (nI o) = some (nI (wo W a o)) := by
  unfold f_X8_worthOf
  cases o with
  | zero => rw [if_pos (show nI 0 = 0 from rfl)]; rfl
  | succ q =>
    have h6 := hW a q
    rw [if_neg (nI_ne0 (by omega) (by omega)), ix6', show a * 6 + (q + 1) = a * 6 + q + 1 from by omega, nI_pred, rdI_n _ (by omega) (by decide), bd, hw a q ha (by omega)]
    unfold f_X8_worthOf_22 wo
    simp only
    by_cases h0 : W a q = 0
    · rw [if_pos h0, h0, if_pos (show nI 0 = 0 from rfl)]; rfl
    · rw [if_neg h0, if_neg (nI_ne0 (by omega) (by omega))]
