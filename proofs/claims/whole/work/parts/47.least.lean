/-! the reference's tables: weights, takes, the least cost of each state -/
theorem ixW (a s : Nat) : 4096 * nI a + nI s = nI (4096 * a + s) := by rw [show (4096 : Int32) = nI 4096 from rfl, nI_mul, nI_add]
theorem fw_9 (N P : Nat) (S : Nat → Nat) (seats : Nat → Int32) (hP : P ≤ 6) (hs : ∀ q, q < 6 → seats q = nI (S q)) (hS : ∀ q, q < 6 → S q ≤ 3) : ∀ (n q : Nat) (weight : Nat → Int32), q ≤ P → P - q < n → (∀ j, j < q → weight j = nI (wgt S j)) →
    ∃ w', f_X8_findWeights_9 N (nI P) seats n (nI (wgt S q - 1)) weight (nI (wgt S q)) (nI q) = some (nI (wgt S P - 1), w') ∧ ∀ j, j < P → w' j = nI (wgt S j) := by
  intro n
  induction n with
  | zero => intro q weight h1 h2; omega
  | succ n ih =>
    intro q weight hq hn hw
    rw [f_X8_findWeights_9]
    by_cases h : P ≤ q
    · have hqP : q = P := by omega
      subst hqP
      rw [if_pos (nI_le (Nat.le_refl _) (by omega))]
      exact ⟨weight, rfl, hw⟩
    · rw [if_neg (nI_ge (by omega) (by omega)), wrI_n _ _ (by omega) (by decide), bd, rdI_n _ (by omega) (by decide), bd, bd, hs q (by omega)]
      have e1 : nI (wgt S q - 1) + nI (wgt S q) * nI (S q) = nI (wgt S (q + 1) - 1) := by
        rw [nI_mul, nI_add]
        congr 1
        have := wgt_pos S q
        rw [wgt, Nat.mul_add, Nat.mul_one]; omega
      have e2 : nI (wgt S q) * (nI (S q) + 1) = nI (wgt S (q + 1)) := by rw [nI_1, nI_mul, wgt]
      rw [e1, e2, nI_1]
      refine ih (q + 1) _ (by omega) (by omega) (fun j hj => ?_)
      unfold upd
      by_cases hjq : j = q
      · rw [if_pos hjq, hjq]
      · rw [if_neg hjq]; exact hw j (by omega)
theorem X8_weights (N P : Nat) (S : Nat → Nat) (seats weight : Nat → Int32) (full : Int32) (hP : P ≤ 6) (hs : ∀ q, q < 6 → seats q = nI (S q)) (hS : ∀ q, q < 6 → S q ≤ 3) (hN : 40000 ≤ N) :
    ∃ w', f_X8_findWeights N (nI P) seats full weight = some (nI (wgt S P - 1), w') ∧ ∀ j, j < P → w' j = nI (wgt S j) := by
  unfold f_X8_findWeights
  exact fw_9 N P S seats hP hs hS N 0 weight (by omega) (by omega) (fun j hj => absurd hj (Nat.not_lt_zero j))
def tkS (S : Nat → Nat) (W : Nat → Nat → Nat) (a o s : Nat) : Option Nat := match o with
  | 0 => some s
  | q + 1 => if 0 < W a q ∧ 0 < dig S s q then some (s - wgt S q) else none
def oN (x : Option Nat) : Int32 := match x with
  | none => -1
  | some t => nI t
theorem X8_takes_ok (N : Nat) {P : Nat} {S : Nat → Nat} {W : Nat → Nat → Nat} {seats weight wish : Nat → Int32} (hP : P ≤ 6) (hs : ∀ q, q < 6 → seats q = nI (S q)) (hS : ∀ q, q < 6 → S q ≤ 3) (hW : ∀ a q, W a q ≤ 6) (hw : ∀ a q, a < 8 → q < 6 → wish (a * 6 + q) = nI (W a q)) (hwt : ∀ j, j < P → weight j = nI (wgt S j))
    {a o s : Nat} (ha : a < 8) (ho : o ≤ P) (hs4 : s < 4096) : f_X8_takes N (nI P) seats weight wish (nI a) (nI o) (nI s) = some (oN (tkS S W a o s)) := by
  unfold f_X8_takes
  cases o with
  | zero => rw [if_pos (show nI 0 = 0 from rfl)]; rfl
  | succ q =>
    have hw6 := wgt_le6 S hS (q := q) (by omega)
    have hwp := wgt_pos S q
    have hSq := hS q (by omega)
    have hWq := hW a q
    rw [if_neg (nI_ne0 (by omega) (by omega)), nI_pred, if_neg (nI_ge (by omega) (by omega)), ix6', rdI_n _ (by omega) (by decide), bd, hw a q ha (by omega)]
    unfold tkS
    simp only
    by_cases h0 : W a q = 0
    · rw [h0, if_pos (show nI 0 ≤ 0 from by decide), if_neg (by omega)]
      unfold f_X8_takes_61 f_X8_takes_62
      rw [if_pos rfl]; rfl
    · rw [if_neg (nI_nle (by omega) (by omega)), rdI_n _ (by omega) (by decide), bd, hwt q (by omega), if_neg (nI_ne0 hwp (by omega)), rdI_n _ (by omega) (by decide), bd, hs q (by omega), nI_1, if_neg (nI_ne0 (by omega) (by omega)),
        pk_div (by omega) hwp (by omega), pk_rem (Nat.lt_of_le_of_lt (Nat.div_le_self _ _) (by omega)) (by omega) (by omega)]
      have hd : s / wgt S q % (S q + 1) = dig S s q := rfl
      rw [hd]
      by_cases h1 : 0 < dig S s q
      · have hd4 : dig S s q < 2 ^ 31 := by
          have : dig S s q < S q + 1 := Nat.mod_lt _ (Nat.succ_pos _)
          omega
        have hle : wgt S q ≤ s := by
          rcases Nat.lt_or_ge s (wgt S q) with z | z
          · unfold dig at h1
            rw [Nat.div_eq_of_lt z, Nat.zero_mod] at h1
            exact absurd h1 (Nat.lt_irrefl _)
          · exact z
        rw [if_neg (nI_nle h1 hd4), if_pos ⟨by omega, h1⟩]
        unfold f_X8_takes_62
        rw [if_neg (by decide), rdI_n _ (by omega) (by decide), bd, hwt q (by omega), pk_sub hle]
        rfl
      · rw [show dig S s q = 0 from by omega, if_pos (show nI 0 ≤ 0 from by decide), if_neg (by omega)]
        unfold f_X8_takes_61 f_X8_takes_62
        rw [if_pos rfl]; rfl
theorem tkS_le {S : Nat → Nat} {W : Nat → Nat → Nat} {a o s t : Nat} (h : tkS S W a o s = some t) : t ≤ s := by
  unfold tkS at h
  split at h
  · cases h; exact Nat.le_refl _
  · split at h
    · cases h; omega
    · cases h
/-- a state's takings are the seat vector's, where the wish is there -/
theorem tkS_tk {S : Nat → Nat} {W : Nat → Nat → Nat} {a o s : Nat} (hW : ∀ q, o = q + 1 → 0 < W a q) : tk (dig S s) o = (tkS S W a o s).map (dig S) := by
  unfold tk tkS
  cases o with
  | zero => rfl
  | succ q =>
    simp only
    by_cases h : 0 < dig S s q
    · rw [if_pos h, if_pos ⟨hW q rfl, h⟩, Option.map_some, dig_sub h]
    · rw [if_neg h, if_neg (fun z => h z.2)]; rfl
/-! the least cost -/
def NV : Int := 1000000000000000000
def BB : Int := 1000000000
/-- a cost y stands for the best of what is left, m askers being to come -/
def LV (m : Nat) (x : Bw) (y : Int) : Prop := match x with
  | none => NV - m * BB ≤ y ∧ y ≤ NV
  | some q => y = -q.1 ∧ -(m * BB) ≤ q.1 ∧ q.1 ≤ m * BB
def LC (m : Nat) (x : Bw) (y : Int) : Prop := match x with
  | none => NV - m * BB ≤ y ∧ y ≤ NV + m * BB
  | some q => y = -q.1 ∧ -(m * BB) ≤ q.1 ∧ q.1 ≤ m * BB
theorem LV_b63 {m : Nat} (hm : m ≤ 8) {x : Bw} {y : Int} (h : LV m x y) : b63 y := by
  unfold LV at h
  unfold b63
  have : (m : Int) * BB ≤ 8 * BB := Int.mul_le_mul_of_nonneg_right (by omega) (by decide)
  simp only [BB, NV] at *
  split at h <;> omega
theorem LC_b63 {m : Nat} (hm : m ≤ 8) {x : Bw} {y : Int} (h : LC m x y) : b63 y := by
  unfold LC at h
  unfold b63
  have : (m : Int) * BB ≤ 8 * BB := Int.mul_le_mul_of_nonneg_right (by omega) (by decide)
  simp only [BB, NV] at *
  split at h <;> omega
theorem LV_cmb {m : Nat} (hm : m ≤ 8) {x c : Bw} {y v : Int} (h1 : LV m x y) (h2 : LC m c v) : LV m (cmb x c) (if y ≤ v then y else v) := by
  have hb : (m : Int) * BB ≤ 8 * BB := Int.mul_le_mul_of_nonneg_right (by omega) (by decide)
  have hb0 : 0 ≤ (m : Int) * BB := Int.mul_nonneg (by omega) (by decide)
  cases x with
  | none =>
    cases c with
    | none =>
      simp only [LV, LC, cmb, NV, BB] at *
      split <;> omega
    | some q =>
      simp only [LV, LC, cmb, NV, BB] at *
      rw [if_neg (by omega)]
      exact h2
  | some p =>
    cases c with
    | none =>
      simp only [LV, LC, cmb, NV, BB] at *
      rw [if_pos (by omega)]
      exact h1
    | some q =>
      simp only [LV, LC, cmb, NV, BB] at *
      by_cases h3 : p.1 < q.1
      · rw [if_pos h3, if_neg (by omega)]; exact h2
      · rw [if_neg h3, if_pos (show y ≤ v by omega)]
        by_cases h4 : p.1 = q.1
        · rw [if_pos h4]; exact h1
        · rw [if_neg h4]; exact h1
