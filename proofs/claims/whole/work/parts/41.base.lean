/-! BASE: numbers and rows of the pure functions -/
theorem lit (k : Nat) : (OfNat.ofNat k : Int32) = nI k := rfl
theorem rdI_n {n i : Nat} (f : Nat → Int32) (h : i < n) (hn : n < 2 ^ 31) : rdI n f (nI i) = some (f i) := by
  unfold rdI
  rw [if_neg (nI_in h hn), nI_clamp (by omega)]
theorem wrI_n {n i : Nat} (f : Nat → Int32) (x : Int32) (h : i < n) (hn : n < 2 ^ 31) : wrI n f (nI i) x = some (upd f i x) := by
  unfold wrI
  rw [if_neg (nI_in h hn), nI_clamp (by omega)]
theorem rdL_n {n i : Nat} (f : Nat → Int64) (h : i < n) (hn : n < 2 ^ 31) : rdL n f (nI i) = some (f i) := by
  unfold rdL
  rw [if_neg (nI_in h hn), nI_clamp (by omega)]
theorem wrL_n {n i : Nat} (f : Nat → Int64) (x : Int64) (h : i < n) (hn : n < 2 ^ 31) : wrL n f (nI i) x = some (vp_updL f i x) := by
  unfold wrL
  rw [if_neg (nI_in h hn), nI_clamp (by omega)]
theorem bd {α β : Type} (a : α) (k : α → Option β) : (some a).bind k = k a := rfl
/-- reading at an index that is some number -/
theorem rdI_e {n i : Nat} {x : Int32} (f : Nat → Int32) (e : x = nI i) (h : i < n) (hn : n < 2 ^ 31) : rdI n f x = some (f i) := by rw [e]; exact rdI_n f h hn
theorem wrI_e {n i : Nat} {x : Int32} (f : Nat → Int32) (v : Int32) (e : x = nI i) (h : i < n) (hn : n < 2 ^ 31) : wrI n f x v = some (upd f i v) := by rw [e]; exact wrI_n f v h hn
theorem rdL_e {n i : Nat} {x : Int32} (f : Nat → Int64) (e : x = nI i) (h : i < n) (hn : n < 2 ^ 31) : rdL n f x = some (f i) := by rw [e]; exact rdL_n f h hn
theorem wrL_e {n i : Nat} {x : Int32} (f : Nat → Int64) (v : Int64) (e : x = nI i) (h : i < n) (hn : n < 2 ^ 31) : wrL n f x v = some (vp_updL f i v) := by rw [e]; exact wrL_n f v h hn
theorem nI_mul (a b : Nat) : nI a * nI b = nI (a * b) := pk_mul a b
theorem nI_inj {a b : Nat} (ha : a < 2 ^ 31) (hb : b < 2 ^ 31) (h : nI a = nI b) : a = b := (nI_eq ha hb).mp h
theorem nI_ne {a b : Nat} (ha : a < 2 ^ 31) (hb : b < 2 ^ 31) (h : a ≠ b) : nI a ≠ nI b := fun e => h (nI_inj ha hb e)
theorem nI_neg1 {a : Nat} (ha : a < 2 ^ 31) : ¬ nI a = -1 := by
  intro h
  have h1 := nI_toInt ha
  rw [h] at h1
  have h2 : (-1 : Int32).toInt = -1 := by decide
  omega
/-- an option (0 none, q + 1 a place) as the class has it -/
def oI (o : Nat) : Int32 := nI o - 1
theorem oI_0 : oI 0 = -1 := by decide
theorem oI_s (q : Nat) : oI (q + 1) = nI q := nI_pred q
theorem oI_toInt {o : Nat} (h : o < 2 ^ 31) : (oI o).toInt = (o : Int) - 1 := by
  cases o with
  | zero => rw [oI_0]; decide
  | succ q => rw [oI_s, nI_toInt (by omega)]; omega
theorem oI_inj {a b : Nat} (ha : a < 2 ^ 31) (hb : b < 2 ^ 31) (h : oI a = oI b) : a = b := by
  have h1 := oI_toInt ha
  rw [h, oI_toInt hb] at h1
  omega
theorem i_cases {x : Int32} {n : Nat} (h0 : ¬ x < 0) (h1 : ¬ nI n ≤ x) (hn : n < 2 ^ 31) : ∃ j : Nat, j < n ∧ x = nI j := by
  obtain ⟨j, hj, e, -⟩ := pk_mu h0 h1 hn
  exact ⟨j, hj, e⟩
/-- whole numbers as ints and longs -/
def zI (z : Int) : Int32 := Int32.ofInt z
def zL (z : Int) : Int64 := Int64.ofInt z
def b31 (z : Int) : Prop := -2147483648 ≤ z ∧ z < 2147483648
def b63 (z : Int) : Prop := -9223372036854775808 ≤ z ∧ z < 9223372036854775808
theorem zI_toInt {z : Int} (h : b31 z) : (zI z).toInt = z := fb_ofI h.1 h.2
theorem zL_toInt {z : Int} (h : b63 z) : (zL z).toInt = z := by
  unfold zL
  rw [Int64.toInt_ofInt]
  exact fb_bmodL h.1 h.2
theorem zI_add (a b : Int) : zI a + zI b = zI (a + b) := (Int32.ofInt_add a b).symm
theorem zL_add (a b : Int) : zL a + zL b = zL (a + b) := (Int64.ofInt_add a b).symm
theorem zI_sub (a b : Int) : zI a - zI b = zI (a - b) := (Int32.ofInt_sub a b).symm
theorem zL_sub (a b : Int) : zL a - zL b = zL (a - b) := (Int64.ofInt_sub a b).symm
theorem zI_mul (a b : Int) : zI a * zI b = zI (a * b) := (Int32.ofInt_mul a b).symm
theorem zL_mul (a b : Int) : zL a * zL b = zL (a * b) := (Int64.ofInt_mul a b).symm
theorem zI_neg (a : Int) : -zI a = zI (-a) := (Int32.ofInt_neg a).symm
theorem zL_neg (a : Int) : -zL a = zL (-a) := (Int64.ofInt_neg a).symm
theorem zI_nat (n : Nat) : zI (n : Int) = nI n := Int32.ofInt_eq_ofNat
theorem zL_nat (n : Nat) : zL (n : Int) = lN n := Int64.ofInt_eq_ofNat
theorem zI_lt {a b : Int} (ha : b31 a) (hb : b31 b) : zI a < zI b ↔ a < b := by
  rw [Int32.lt_iff_toInt_lt, zI_toInt ha, zI_toInt hb]
theorem zI_le {a b : Int} (ha : b31 a) (hb : b31 b) : zI a ≤ zI b ↔ a ≤ b := by
  rw [Int32.le_iff_toInt_le, zI_toInt ha, zI_toInt hb]
theorem zI_eq {a b : Int} (ha : b31 a) (hb : b31 b) : zI a = zI b ↔ a = b := by
  rw [← Int32.toInt_inj, zI_toInt ha, zI_toInt hb]
theorem zL_lt {a b : Int} (ha : b63 a) (hb : b63 b) : zL a < zL b ↔ a < b := by
  rw [Int64.lt_iff_toInt_lt, zL_toInt ha, zL_toInt hb]
theorem zL_le {a b : Int} (ha : b63 a) (hb : b63 b) : zL a ≤ zL b ↔ a ≤ b := by
  rw [Int64.le_iff_toInt_le, zL_toInt ha, zL_toInt hb]
theorem zL_eq {a b : Int} (ha : b63 a) (hb : b63 b) : zL a = zL b ↔ a = b := by
  rw [← Int64.toInt_inj, zL_toInt ha, zL_toInt hb]
theorem zL_of (x : Int64) : zL x.toInt = x := Int64.ofInt_toInt x
theorem zI_of (x : Int32) : zI x.toInt = x := Int32.ofInt_toInt x
theorem zI_l {z : Int} (h : b31 z) : (zI z).toInt64 = zL z := by
  rw [← Int64.toInt_inj, Int32.toInt_toInt64, zI_toInt h, zL_toInt ⟨by have := h.1; omega, by have := h.2; omega⟩]
