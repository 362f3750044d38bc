/-! RUNNING the pure functions by simp: conditions as conditions of numbers -/
theorem q_n1 {a : Nat} (h : a < 2 ^ 31) : (nI a = -1) = False := eq_false (nI_neg1 h)
theorem q_le {a b : Nat} (ha : a < 2 ^ 31) (hb : b < 2 ^ 31) : (nI a ≤ nI b) = (a ≤ b) := propext (nI_leI ha hb)
theorem q_lt {a b : Nat} (ha : a < 2 ^ 31) (hb : b < 2 ^ 31) : (nI a < nI b) = (a < b) := propext (nI_ltI ha hb)
theorem q_eq {a b : Nat} (ha : a < 2 ^ 31) (hb : b < 2 ^ 31) : (nI a = nI b) = (a = b) := propext (nI_eq ha hb)
theorem q_le0 {a : Nat} (ha : a < 2 ^ 31) : (nI a ≤ 0) = (a = 0) := (q_le (b := 0) ha (by decide)).trans (propext ⟨fun h => by omega, fun h => by omega⟩)
theorem q_lt0 {a : Nat} (ha : a < 2 ^ 31) : (nI a < 0) = False := eq_false (nI_pos ha)
theorem q_eq0 {a : Nat} (ha : a < 2 ^ 31) : (nI a = 0) = (a = 0) := q_eq (b := 0) ha (by decide)
theorem q_eq1 {a : Nat} (ha : a < 2 ^ 31) : (nI a = 1) = (a = 1) := q_eq (b := 1) ha (by decide)
theorem q_eq2 {a : Nat} (ha : a < 2 ^ 31) : (nI a = 2) = (a = 2) := q_eq (b := 2) ha (by decide)
theorem q_1le {a : Nat} (ha : a < 2 ^ 31) : (1 ≤ nI a) = (1 ≤ a) := q_le (a := 1) (by decide) ha
theorem q_4le {a : Nat} (ha : a < 2 ^ 31) : (4 ≤ nI a) = (4 ≤ a) := q_le (a := 4) (by decide) ha
theorem q_6le {a : Nat} (ha : a < 2 ^ 31) : (6 ≤ nI a) = (6 ≤ a) := q_le (a := 6) (by decide) ha
theorem q_7le {a : Nat} (ha : a < 2 ^ 31) : (7 ≤ nI a) = (7 ≤ a) := q_le (a := 7) (by decide) ha
theorem q_8le {a : Nat} (ha : a < 2 ^ 31) : (8 ≤ nI a) = (8 ≤ a) := q_le (a := 8) (by decide) ha
theorem q_48le {a : Nat} (ha : a < 2 ^ 31) : (48 ≤ nI a) = (48 ≤ a) := q_le (a := 48) (by decide) ha
theorem q_6lt {a : Nat} (ha : a < 2 ^ 31) : (6 < nI a) = (6 < a) := q_lt (a := 6) (by decide) ha
theorem q_7lt {a : Nat} (ha : a < 2 ^ 31) : (7 < nI a) = (7 < a) := q_lt (a := 7) (by decide) ha
theorem q_8lt {a : Nat} (ha : a < 2 ^ 31) : (8 < nI a) = (8 < a) := q_lt (a := 8) (by decide) ha
theorem q_1lt {a : Nat} (ha : a < 2 ^ 31) : (1 < nI a) = (1 < a) := q_lt (a := 1) (by decide) ha
theorem q_lt1 {a : Nat} (ha : a < 2 ^ 31) : (nI a < 1) = (a = 0) := (q_lt (b := 1) ha (by decide)).trans (propext ⟨fun h => by omega, fun h => by omega⟩)
theorem q_lt8 {a : Nat} (ha : a < 2 ^ 31) : (nI a < 8) = (a < 8) := q_lt (b := 8) ha (by decide)
theorem q_lt6 {a : Nat} (ha : a < 2 ^ 31) : (nI a < 6) = (a < 6) := q_lt (b := 6) ha (by decide)
theorem q_lt7 {a : Nat} (ha : a < 2 ^ 31) : (nI a < 7) = (a < 7) := q_lt (b := 7) ha (by decide)
theorem q_le6 {a : Nat} (ha : a < 2 ^ 31) : (nI a ≤ 6) = (a ≤ 6) := q_le (b := 6) ha (by decide)
theorem q_le7 {a : Nat} (ha : a < 2 ^ 31) : (nI a ≤ 7) = (a ≤ 7) := q_le (b := 7) ha (by decide)
theorem q_le8 {a : Nat} (ha : a < 2 ^ 31) : (nI a ≤ 8) = (a ≤ 8) := q_le (b := 8) ha (by decide)
theorem q_oeq {a b : Nat} (ha : a < 2 ^ 31) (hb : b < 2 ^ 31) : (oI a = oI b) = (a = b) := propext ⟨oI_inj ha hb, fun h => by rw [h]⟩
theorem q_on {a b : Nat} (ha : a < 2 ^ 31) (hb : b < 2 ^ 30) : (oI a = nI b) = (a = b + 1) := by
  rw [← oI_s]; exact q_oeq ha (by omega)
theorem q_on1 {a : Nat} (ha : a < 2 ^ 31) : (oI a = -1) = (a = 0) := by
  rw [← oI_0]; exact q_oeq ha (by decide)
/-! the class's board -/
section BOARD
variable {N K P : Nat} {S : Nat → Nat} {W T : Nat → Nat → Nat}
theorem X0_toldOf_ok {told : Nat → Int32} (ht : ∀ g a, g < 4 → a < 8 → told (g * 8 + a) = oI (T g a)) {g a : Nat} (hg : g < 4) (ha : a < 8) : f_X0_toldOf N told (nI g) (nI a) = some (oI (T g a)) := by
  unfold f_X0_toldOf
  simp (disch := omega) only [bd, rdI_n, wrI_n, rdL_n, wrL_n, ix6, ix6', ix7, ix7', ix8, ix8', nI_1, ht g a hg ha]
theorem X0_wishOf_ok {wishes : Nat → Int32} (hw : ∀ a q, a < 8 → q < 6 → wishes (a * 6 + q) = nI (W a q)) {a q : Nat} (ha : a < 8) (hq : q < 6) : f_X0_wishOf N wishes (nI a) (nI q) = some (nI (W a q)) := by
  unfold f_X0_wishOf
  simp (disch := omega) only [bd, rdI_n, wrI_n, rdL_n, wrL_n, ix6, ix6', ix7, ix7', ix8, ix8', nI_1, hw a q ha hq]
theorem X0_toldWorth_ok (hW : ∀ a q, W a q ≤ 6) {wishes told : Nat → Int32} (hw : ∀ a q, a < 8 → q < 6 → wishes (a * 6 + q) = nI (W a q)) (ht : ∀ g a, g < 4 → a < 8 → told (g * 8 + a) = oI (T g a)) {g a : Nat} (hg : g < 4) (ha : a < 8) (hT : T g a ≤ 6) : f_X0_toldWorth N told wishes (nI g) (nI a) = some (nI (wo W a (T g a))) := by
  unfold f_X0_toldWorth
  simp (disch := omega) only [bd, rdI_n, wrI_n, rdL_n, wrL_n, ix6, ix6', ix7, ix7', ix8, ix8', nI_1, X0_toldOf_ok ht hg ha, X0_worthOf_ok N hW hw ha hT]
theorem X0_isOpen_ok (hW : ∀ a q, W a q ≤ 6) {wishes : Nat → Int32} (hw : ∀ a q, a < 8 → q < 6 → wishes (a * 6 + q) = nI (W a q)) {a o : Nat} (ha : a < 8) (ho : o ≤ 6) : f_X0_isOpen N wishes (nI a) (oI o) = some (if 7 < wo W a o then 0 else 1) := by
  unfold f_X0_isOpen
  have := wo_le W hW a o
  simp (disch := omega) only [bd, rdI_n, wrI_n, rdL_n, wrL_n, ix6, ix6', ix7, ix7', ix8, ix8', nI_1, X0_worthOf_ok N hW hw ha ho, q_7lt]
  split <;> rfl
def hadX (K : Nat) (t : Nat → Nat) (o x : Nat) : Nat := fb_ct (fun a => decide (t a = o) && !decide (a = x)) K
theorem X0_holders_6 {told : Nat → Int32} (ht : ∀ g a, g < 4 → a < 8 → told (g * 8 + a) = oI (T g a)) (hT : ∀ g a, T g a ≤ 6) (hK : K ≤ 8) {g q : Nat} (hg : g < 4) (hq : q < 6) {x : Nat} {u : Int32} (hu : ∀ a, a < 8 → (nI a = u) = (a = x)) :
    ∀ (n a : Nat), a ≤ K → K - a < n → f_X0_holders_6 N (nI K) told n (nI g) (nI q) u (nI (hadX a (T g) (q + 1) x)) (nI a) = some (nI (hadX K (T g) (q + 1) x)) := by
  intro n
  induction n with
  | zero => intro a h1 h2; omega
  | succ n ih =>
    intro a ha hn
    rw [f_X0_holders_6]
    by_cases h : K ≤ a
    · have : a = K := by omega
      subst this
      simp (disch := omega) only [bd, rdI_n, wrI_n, rdL_n, wrL_n, ix6, ix6', ix7, ix7', ix8, ix8', nI_1, q_le, if_pos]
    · have h6 := hT g a
      have hs : hadX (a + 1) (T g) (q + 1) x = hadX a (T g) (q + 1) x + (if decide (T g a = q + 1) && !decide (a = x) then 1 else 0) := rfl
      have := ih (a + 1) (by omega) (by omega)
      rw [hs] at this
      simp (disch := omega) only [bd, rdI_n, wrI_n, rdL_n, wrL_n, ix6, ix6', ix7, ix7', ix8, ix8', nI_1, q_le, if_neg, hu a (by omega), X0_toldOf_ok ht hg (show a < 8 by omega), q_on, if_neg h]
      by_cases hx : a = x
      · simp only [hx, decide_true, Bool.not_true, Bool.and_false, if_true] at this ⊢
        simpa using this
      · rw [if_neg hx]
        by_cases hq2 : T g a = q + 1
        · rw [if_pos hq2]
          simpa [hx, hq2] using this
        · rw [if_neg hq2]
          simpa [hx, hq2] using this
end BOARD
