/-! GAINS: the class's gains of a standing -/
section GAINS
variable {N K P tight : Nat} {S : Nat → Nat} {W T : Nat → Nat → Nat} {cw firsts : Nat → Int32}
def swR (W : Nat → Nat → Nat) (tight a : Nat) : Nat → Nat
  | 0 => 7
  | q + 1 => if bt tight q = 1 then swR W tight a q else min (swR W tight a q) (wo W a (q + 1))
theorem swR_7 (a : Nat) : ∀ n, swR W tight a n ≤ 7
  | 0 => Nat.le_refl _
  | n + 1 => by
    have := swR_7 a n
    rw [swR]
    split
    · exact this
    · exact Nat.le_trans (Nat.min_le_left _ _) this
def vStd (W : Nat → Nat → Nat) (P tight : Nat) (x y : Int32) (a o : Nat) : Int32 := match o with
  | 0 => if swR W tight a P = 7 then 0 else RUL
  | q + 1 => if fB W P a q = true then x + y else if bt tight q ≠ 1 ∧ wo W a (q + 1) = swR W tight a P then y else RUL
def sRow (W : Nat → Nat → Nat) (P tight : Nat) (x y : Int) (a : Nat) : Row := fun o => match o with
  | 0 => if swR W tight a P = 7 then some 0 else none
  | q + 1 => if fB W P a q = true then some (x + y) else if bt tight q ≠ 1 ∧ wo W a (q + 1) = swR W tight a P then some y else none
theorem worth_q (hW : ∀ a q, W a q ≤ 6) (hw4 : ∀ a q, a < 8 → q < 6 → cw (a * 6 + q) = nI (W a q)) {a q : Nat} (ha : a < 8) (hq : q < 6) : f_X0_worthOf N cw (nI a) (nI q) = some (nI (wo W a (q + 1))) := by
  rw [← oI_s q]
  exact X0_worthOf_ok N hW hw4 ha (by omega)
theorem setGain_q (g : Nat → Int32) {a q : Nat} (ha : a < 8) (hq : q < 6) (x : Int32) : f_X4_setGain N g (nI a) (nI q) x = some (upd g (a * 7 + (q + 1)) x) := by
  rw [← oI_s q]
  exact setGain_ok g ha (by omega) x
theorem isTight_ok (ht : tight < 64) {q : Nat} (hq : q < 6) : f_X5_isTight N (nI tight) (nI q) = some (if bt tight q = 1 then 1 else 0) := by
  unfold f_X5_isTight
  rw [bit1 (by omega) (by omega)]
  have := bt_lt tight q
  by_cases h : bt tight q = 1
  · rw [if_pos (show nI (bt tight q) = 1 by rw [h]; rfl), if_pos h]
  · rw [if_neg (show ¬ nI (bt tight q) = 1 from nI_ne (b := 1) (by omega) (by decide) h), if_neg h]
theorem secondWorth_5_ok (hP : P ≤ 6) (hW : ∀ a q, W a q ≤ 6) (hw4 : ∀ a q, a < 8 → q < 6 → cw (a * 6 + q) = nI (W a q)) (ht : tight < 64) {a : Nat} (ha : a < 8) :
    ∀ (n q : Nat), q ≤ P → P - q < n → f_X5_secondWorth_5 N (nI tight) (nI P) cw n (nI a) (nI (swR W tight a q)) (nI q) = some (nI (swR W tight a P)) := by
  intro n
  induction n with
  | zero => intro q h1 h2; omega
  | succ n ih =>
    intro q h1 h2
    rw [f_X5_secondWorth_5]
    by_cases hc : P ≤ q
    · have : q = P := by omega
      subst this
      rw [if_pos (nI_le (Nat.le_refl _) (by omega))]
    · have h7 := swR_7 (W := W) (tight := tight) a q
      have h8 := wo_le W hW a (q + 1)
      have hrec := ih (q + 1) (by omega) (by omega)
      rw [swR] at hrec
      rw [if_neg (nI_ge (by omega) (by omega)), isTight_ok ht (by omega), bd]
      by_cases h : bt tight q = 1
      · rw [if_pos h] at hrec
        rw [if_pos h, if_neg one_ne, nI_1]
        exact hrec
      · rw [if_neg h] at hrec
        rw [if_neg h, if_pos rfl, worth_q hW hw4 ha (by omega), bd]
        by_cases hle : swR W tight a q ≤ wo W a (q + 1)
        · rw [if_pos (nI_le hle (by omega)), nI_1]
          rw [Nat.min_eq_left hle] at hrec
          exact hrec
        · rw [if_neg (nI_ge (by omega) (by omega)), bd, nI_1]
          rw [Nat.min_eq_right (by omega)] at hrec
          exact hrec
theorem fg_46 (hP : P ≤ 6) (hW : ∀ a q, W a q ≤ 6) (hw4 : ∀ a q, a < 8 → q < 6 → cw (a * 6 + q) = nI (W a q)) (ht : tight < 64) {a : Nat} (ha : a < K) (hK : K ≤ 8) (hf : firsts a = nI (em (fB W P a) P)) {x y : Int32} (k3 : (Nat → Int32) → Int32 → Int32 → Int32 → Option ((Nat → Int32))) :
    ∀ (n q : Nat) (g : Nat → Int32), q ≤ P → P - q < n → Fil P (vStd W P tight x y) a (q + 1) g →
      ∃ g', f_X5_fillGains_46 N (nI tight) (nI K) (nI P) firsts cw k3 n g x y (nI a) (nI (swR W tight a P)) (nI q) = k3 g' x y (nI (a + 1)) ∧ Fil P (vStd W P tight x y) (a + 1) 0 g' := by
  intro n
  induction n with
  | zero => intro q g h1 h2; omega
  | succ n ih =>
    intro q g h1 h2 h3
    rw [f_X5_fillGains_46]
    by_cases hc : P ≤ q
    · have : q = P := by omega
      subst this
      rw [if_pos (nI_le (Nat.le_refl _) (by omega)), nI_1]
      exact ⟨g, rfl, Fil_next h3⟩
    · have h7 := swR_7 (W := W) (tight := tight) a P
      have h8 := wo_le W hW a (q + 1)
      have hem := em_lt (fB W P a) P
      have hpK : 2 ^ P ≤ 2 ^ 6 := Nat.pow_le_pow_right (by decide) hP
      have put : ∀ z : Int32, z = vStd W P tight x y a (q + 1) → ∃ g', f_X5_fillGains_114 N (nI tight) (nI K) (nI P) firsts cw (f_X5_fillGains_46 N (nI tight) (nI K) (nI P) firsts cw k3 n) g x y (nI a) (nI (swR W tight a P)) (nI q) z = k3 g' x y (nI (a + 1)) ∧ Fil P (vStd W P tight x y) (a + 1) 0 g' := by
        intro z hz
        unfold f_X5_fillGains_114
        rw [setGain_q g (by omega) (by omega), bd, nI_1]
        exact ih (q + 1) _ (by omega) (by omega) (Fil_upd hP h3 (by omega) hz)
      rw [if_neg (nI_ge (by omega) (by omega)), rdI_n _ (by omega) (by decide), bd, hf, bit1 (by omega) (by omega), bt_em _ P q (by omega)]
      by_cases hfb : fB W P a q = true
      · rw [if_pos hfb, if_pos (show nI 1 = 1 from rfl)]
        exact put _ (by show _ = if fB W P a q = true then x + y else _; rw [if_pos hfb])
      · rw [if_neg hfb, if_neg (show ¬ nI 0 = 1 by decide), isTight_ok ht (by omega), bd]
        by_cases htq : bt tight q = 1
        · rw [if_pos htq, if_neg one_ne]
          exact put _ (by show _ = if fB W P a q = true then x + y else _; rw [if_neg hfb, if_neg (fun z => z.1 htq)]; rfl)
        · rw [if_neg htq, if_pos rfl, worth_q hW hw4 (by omega) (by omega), bd]
          by_cases he : wo W a (q + 1) = swR W tight a P
          · rw [if_pos (by rw [he])]
            exact put _ (by show _ = if fB W P a q = true then x + y else _; rw [if_neg hfb, if_pos ⟨htq, he⟩])
          · rw [if_neg (nI_ne (by omega) (by omega) he)]
            exact put _ (by show _ = if fB W P a q = true then x + y else _; rw [if_neg hfb, if_neg (fun z => he z.2)]; rfl)
theorem fg_3 (hN : 40000 ≤ N) (hG : GD K P S W T) (hw4 : ∀ a q, a < 8 → q < 6 → cw (a * 6 + q) = nI (W a q)) (ht : tight < 64) (hf : ∀ a, a < K → firsts a = nI (em (fB W P a) P)) {x y : Int32} :
    ∀ (n a : Nat) (g : Nat → Int32), a ≤ K → K - a < n → Fil P (vStd W P tight x y) a 0 g →
      ∃ g', f_X5_fillGains_3 N (nI tight) (nI K) (nI P) firsts cw n g x y (nI a) = some g' ∧ Fil P (vStd W P tight x y) K 0 g' := by
  have hP := hG.P6
  have hK := hG.K8
  intro n
  induction n with
  | zero => intro a g h1 h2; omega
  | succ n ih =>
    intro a g h1 h2 h3
    rw [f_X5_fillGains_3]
    by_cases hc : K ≤ a
    · have : a = K := by omega
      subst this
      rw [if_pos (nI_le (Nat.le_refl _) (by omega))]
      exact ⟨g, rfl, h3⟩
    · have h7 := swR_7 (W := W) (tight := tight) a P
      have hsw : f_X5_secondWorth N (nI tight) (nI P) cw (nI a) = some (nI (swR W tight a P)) := secondWorth_5_ok (N := N) hP hG.W6 hw4 ht (show a < 8 by omega) N 0 (Nat.zero_le _) (by omega)
      have put : ∀ z : Int32, z = vStd W P tight x y a 0 → ∃ g', f_X5_fillGains_40 N (nI tight) (nI K) (nI P) firsts cw (f_X5_fillGains_3 N (nI tight) (nI K) (nI P) firsts cw n) g x y (nI a) (nI (swR W tight a P)) (nI a) (-1 : Int32) z = some g' ∧ Fil P (vStd W P tight x y) K 0 g' := by
        intro z hz
        unfold f_X5_fillGains_40
        rw [← oI_0, setGain_ok g (show a < 8 by omega) (Nat.zero_le _), bd]
        obtain ⟨g1, e1, e2⟩ := fg_46 (N := N) hP hG.W6 hw4 ht (show a < K by omega) hK (hf a (by omega)) (x := x) (y := y) (f_X5_fillGains_3 N (nI tight) (nI K) (nI P) firsts cw n) N 0 _ (Nat.zero_le _) (by omega) (Fil_upd hP h3 (Nat.zero_le _) hz)
        obtain ⟨g2, e3, e4⟩ := ih (a + 1) g1 (by omega) (by omega) e2
        exact ⟨g2, e1.trans e3, e4⟩
      rw [if_neg (nI_ge (by omega) (by omega)), hsw, bd]
      by_cases h : swR W tight a P = 7
      · rw [if_pos (show nI (swR W tight a P) = 7 by rw [h]; rfl)]
        exact put 0 (by show _ = if swR W tight a P = 7 then (0 : Int32) else RUL; rw [if_pos h])
      · rw [if_neg (show ¬ nI (swR W tight a P) = 7 from nI_ne (b := 7) (by omega) (by decide) h)]
        exact put _ (by show _ = if swR W tight a P = 7 then (0 : Int32) else RUL; rw [if_neg h]; rfl)
theorem vStd_rows {x y : Int} (hx : smallZ (x + y)) (hy : smallZ y) {gg : Nat → Int32} (h : Fil P (vStd W P tight (zI x) (zI y)) K 0 gg) : RowsAre K P gg (sRow W P tight x y) ∧ GB K P gg := by
  have e : ∀ a o, a < K → o ≤ P → gg (a * 7 + o) = vStd W P tight (zI x) (zI y) a o := fun a o ha ho => h a o ho (Or.inl ha)
  constructor
  · intro a o ha ho
    unfold gRow
    rw [e a o ha ho]
    unfold vStd sRow
    cases o with
    | zero =>
      simp only
      by_cases h1 : swR W tight a P = 7
      · rw [if_pos h1, if_pos h1, if_neg (by decide)]; rfl
      · rw [if_neg h1, if_neg h1, if_pos rfl]
    | succ q =>
      simp only
      by_cases h1 : fB W P a q = true
      · rw [if_pos h1, if_pos h1, zI_add, if_neg (zI_rul hx), zI_small hx]
      · rw [if_neg h1, if_neg h1]
        by_cases h2 : bt tight q ≠ 1 ∧ wo W a (q + 1) = swR W tight a P
        · rw [if_pos h2, if_pos h2, if_neg (zI_rul hy), zI_small hy]
        · rw [if_neg h2, if_neg h2, if_pos rfl]
  · intro a o ha ho
    rw [e a o ha ho]
    unfold vStd
    cases o with
    | zero =>
      simp only
      by_cases h1 : swR W tight a P = 7
      · rw [if_pos h1]; exact Or.inr (by decide)
      · rw [if_neg h1]; exact Or.inl rfl
    | succ q =>
      simp only
      by_cases h1 : fB W P a q = true
      · rw [if_pos h1, zI_add, zI_small hx]; exact Or.inr hx
      · rw [if_neg h1]
        by_cases h2 : bt tight q ≠ 1 ∧ wo W a (q + 1) = swR W tight a P
        · rw [if_pos h2, zI_small hy]; exact Or.inr hy
        · rw [if_neg h2]; exact Or.inl rfl
end GAINS
