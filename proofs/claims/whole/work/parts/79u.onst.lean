/-! ONST: the reference's number of standings, one option -/
section ONST
variable {N K P : Nat} {S : Nat → Nat} {W T : Nat → Nat → Nat} {mw ms weight fw sw : Nat → Int32} {freed tight : Nat}
/-- givings of n askers from a on with exactly f firsts, seats σ -/
def stN (W : Nat → Nat → Nat) (P tight : Nat) : Nat → Nat → Nat → Sv → Nat
  | 0, _, f, _ => if f = 0 then 1 else 0
  | n + 1, a, f, σ => fb_sm (fun o => match sRow W P tight 1 0 a o with
    | none => 0
    | some γ => match tk σ o with
      | none => 0
      | some σ' => if γ = 1 then (if f = 0 then 0 else stN W P tight n (a + 1) (f - 1) σ') else stN W P tight n (a + 1) f σ') (P + 1)
def stT (W : Nat → Nat → Nat) (P tight n a f : Nat) (σ : Sv) (o : Nat) : Nat := match sRow W P tight 1 0 a o with
    | none => 0
    | some γ => match tk σ o with
      | none => 0
      | some σ' => if γ = 1 then (if f = 0 then 0 else stN W P tight n (a + 1) (f - 1) σ') else stN W P tight n (a + 1) f σ'
theorem stN_succ (n a f : Nat) (σ : Sv) : stN W P tight (n + 1) a f σ = fb_sm (stT W P tight n a f σ) (P + 1) := rfl
theorem stN_le : ∀ (n a f : Nat) (σ : Sv), stN W P tight n a f σ ≤ (P + 1) ^ n
  | 0, a, f, σ => by rw [stN]; split <;> simp
  | n + 1, a, f, σ => by
    rw [stN_succ]
    refine Nat.le_trans (fb_sm_bound (c := (P + 1) ^ n) (fun o _ => ?_)) (by rw [Nat.pow_succ, Nat.mul_comm]; exact Nat.le_refl _)
    unfold stT
    split
    · exact Nat.zero_le _
    · split
      · exact Nat.zero_le _
      · split
        · split
          · exact Nat.zero_le _
          · exact stN_le n _ _ _
        · exact stN_le n _ _ _
def isF (W : Nat → Nat → Nat) (P a o : Nat) : Bool := match o with
  | 0 => false
  | q + 1 => fB W P a q
theorem X8_isFirst_ok (hW : ∀ a q, W a q ≤ 6) (hP : P ≤ 6) (hw : ∀ a q, a < 8 → q < 6 → mw (a * 6 + q) = nI (W a q)) {a o : Nat} (ha : a < 8) (ho : o ≤ P) (hfw : fw a = nI (fwR W a P)) : f_X8_isFirst N fw mw (nI a) (nI o) = some (if isF W P a o = true then 1 else 0) := by
  unfold f_X8_isFirst
  cases o with
  | zero => rw [if_pos (by decide)]; rfl
  | succ q =>
    have h7 := fwR_7 (W := W) a P
    have h8 := wo_le W hW a (q + 1)
    rw [if_neg (by rw [q_le0 (by omega)]; omega), X8_worthOf_ok N hW hw ha (by omega), bd, rdI_n _ (by omega) (by decide), bd, hfw]
    have hiff : (isF W P a (q + 1) = true) ↔ wo W a (q + 1) = fwR W a P := by
      show fB W P a q = true ↔ _
      unfold fB wo
      simp only [Bool.and_eq_true, decide_eq_true_eq]
      by_cases h0 : W a q = 0
      · rw [if_pos h0]; omega
      · rw [if_neg h0]; omega
    by_cases he : wo W a (q + 1) = fwR W a P
    · rw [if_pos (by rw [he]), if_pos (hiff.mpr he)]
    · rw [if_neg (nI_ne (by omega) (by omega) he), if_neg (fun z => he (hiff.mp z))]
def mayB (W : Nat → Nat → Nat) (P tight a o : Nat) : Bool := isF W P a o || ((match o with | 0 => true | q + 1 => decide (bt tight q ≠ 1)) && decide (wo W a o = swR W tight a P))
theorem sRow_may {a o : Nat} : sRow W P tight 1 0 a o = if mayB W P tight a o = true then (if isF W P a o = true then some 1 else some 0) else none := by
  unfold sRow mayB isF
  cases o with
  | zero =>
    simp only [Bool.false_or, Bool.true_and, decide_eq_true_eq]
    show (if swR W tight a P = 7 then some 0 else none) = if (7 : Nat) = swR W tight a P then _ else none
    by_cases h : swR W tight a P = 7
    · rw [if_pos h, if_pos h.symm]; rfl
    · rw [if_neg h, if_neg (fun z => h z.symm)]
  | succ q =>
    simp only [Bool.or_eq_true, Bool.and_eq_true, decide_eq_true_eq]
    by_cases h1 : fB W P a q = true
    · rw [if_pos h1, if_pos (Or.inl h1), if_pos h1]; rfl
    · rw [if_neg h1]
      by_cases h2 : bt tight q ≠ 1 ∧ wo W a (q + 1) = swR W tight a P
      · rw [if_pos h2, if_pos (Or.inr h2), if_neg h1]
      · rw [if_neg h2, if_neg (fun z => z.elim h1 h2)]
theorem X8_mayStand_ok (hW : ∀ a q, W a q ≤ 6) (hP : P ≤ 6) (hw : ∀ a q, a < 8 → q < 6 → mw (a * 6 + q) = nI (W a q)) (hfr : freed < 64) (hft : ∀ q, q < P → (bt freed q = 1 ↔ bt tight q ≠ 1)) {a o : Nat} (ha : a < 8) (ho : o ≤ P) (hfw : fw a = nI (fwR W a P)) (hsw : sw a = nI (swR W tight a P)) : f_X8_mayStand N (nI freed) fw sw mw (nI a) (nI o) = some (if mayB W P tight a o = true then 1 else 0) := by
  have h7 := swR_7 (W := W) (tight := tight) a P
  have h8 := wo_le W hW a o
  have h23 : ∀ c : Bool, f_X8_mayStand_23 N (nI freed) fw sw mw (nI a) (nI o) (if c = true then 1 else 0) = some (if (isF W P a o || (c && decide (wo W a o = swR W tight a P))) = true then 1 else 0) := by
    intro c
    unfold f_X8_mayStand_23
    rw [X8_isFirst_ok hW hP hw ha ho hfw, bd]
    by_cases hf : isF W P a o = true
    · rw [if_pos hf, if_neg one_ne, hf]; rfl
    · rw [if_neg hf, if_pos rfl, show isF W P a o = false by simpa using hf]
      cases c with
      | false => rfl
      | true =>
        rw [if_neg (show ¬ (if true = true then (1 : Int32) else 0) = 0 by decide), X8_worthOf_ok N hW hw ha (by omega), bd, rdI_n _ (by omega) (by decide), bd, hsw]
        by_cases he : wo W a o = swR W tight a P
        · rw [if_pos (by rw [he])]; simp [he]
        · rw [if_neg (nI_ne (by omega) (by omega) he)]; simp [he]
  unfold f_X8_mayStand f_X8_mayStand_18
  cases o with
  | zero =>
    rw [if_pos (show nI 0 = 0 from rfl)]
    exact h23 true
  | succ q =>
    have hb2 := bt_lt freed q
    rw [if_neg (nI_ne0 (by omega) (by omega)), show nI (q + 1) - 1 = nI q from nI_pred q, bit1 (by omega) (by omega)]
    by_cases hb : bt freed q = 1
    · rw [if_pos (show nI (bt freed q) = 1 by rw [hb]; rfl)]
      have := h23 true
      unfold mayB
      simp only [decide_eq_true ((hft q (by omega)).mp hb)]
      exact this
    · rw [if_neg (show ¬ nI (bt freed q) = 1 from nI_ne (b := 1) (by omega) (by decide) hb)]
      have := h23 false
      unfold mayB
      simp only [decide_eq_false (fun z => hb ((hft q (by omega)).mpr z))]
      exact this
/-- the table of standings is right at level a -/
def TT (K P : Nat) (S : Nat → Nat) (W : Nat → Nat → Nat) (tight : Nat) (stand : Nat → Int64) (a : Nat) : Prop := ∀ f s, f ≤ 8 → s < wgt S P → stand ((9 * a + f) * 4096 + s) = lN (stN W P tight (K - a) a f (dig S s))
theorem standAt_ok (a f s : Nat) : f_X8_standAt N (nI a) (nI f) (nI s) = some (nI ((9 * a + f) * 4096 + s)) := by
  unfold f_X8_standAt
  rw [show (9 : Int32) = nI 9 from rfl, show (4096 : Int32) = nI 4096 from rfl, nI_mul, nI_add, nI_mul, nI_add]
theorem X8_standOn_ok (hK : K ≤ 8) (hW : ∀ a q, W a q ≤ 6) (hP : P ≤ 6) (hS : ∀ q, q < 6 → S q ≤ 3) (hs : ∀ q, q < 6 → ms q = nI (S q)) (hw : ∀ a q, a < 8 → q < 6 → mw (a * 6 + q) = nI (W a q)) (hwt : ∀ j, j < P → weight j = nI (wgt S j)) (hfr : freed < 64) (hft : ∀ q, q < P → (bt freed q = 1 ↔ bt tight q ≠ 1)) {a o f s : Nat} (ha : a < K) (ho : o ≤ P) (hf8 : f ≤ 8) (hsl : s < wgt S P) (hfw : fw a = nI (fwR W a P)) (hsw : sw a = nI (swR W tight a P)) {stand : Nat → Int64} (hT : TT K P S W tight stand (a + 1)) :
    f_X8_standOn N (nI P) (nI freed) fw ms sw stand weight mw (nI a) (nI o) (nI f) (nI s) = some (lN (stT W P tight (K - (a + 1)) a f (dig S s) o)) := by
  have hW4 := wgt_le6 S hS hP
  unfold f_X8_standOn f_X8_standOn_21
  rw [X8_mayStand_ok hW hP hw hfr hft (by omega) ho hfw hsw, bd, X8_isFirst_ok hW hP hw (show a < 8 by omega) ho hfw]
  unfold stT
  rw [sRow_may]
  by_cases hm : mayB W P tight a o = true
  · rw [if_pos hm, if_neg one_ne, if_pos hm, X8_takes_ok N hP hs hS hW hw hwt (by omega) ho (by omega), bd, bd]
    have hop : ∀ q, o = q + 1 → 0 < W a q := by
      intro q hq
      subst hq
      unfold mayB isF at hm
      simp only [Bool.or_eq_true, Bool.and_eq_true, decide_eq_true_eq] at hm
      rcases hm with z | ⟨-, z⟩
      · unfold fB at z
        simp only [Bool.and_eq_true, decide_eq_true_eq] at z
        exact z.1
      · have h7 := swR_7 (W := W) (tight := tight) a P
        rw [← z] at h7
        unfold wo at h7
        simp only at h7
        rcases Nat.eq_zero_or_pos (W a q) with y | y
        · rw [if_pos y] at h7; omega
        · exact y
    rw [tkS_tk hop]
    unfold f_X8_standOn_39
    cases ht : tkS S W a o s with
    | none =>
      unfold oN
      simp only [Option.map_none]
      have e : (match (if isF W P a o = true then some (1 : Int) else some 0) with | none => 0 | some _ => 0) = 0 := by split <;> rfl
      by_cases hF : isF W P a o = true
      · simp only [if_pos hF]; rfl
      · simp only [if_neg hF]; rfl
    | some s' =>
      have hs' := tkS_le ht
      unfold oN
      simp only [Option.map_some]
      rw [if_neg (nI_neg1 (by omega)), nI_1]
      by_cases hF : isF W P a o = true
      · simp only [if_pos hF]
        rw [if_neg one_ne, if_neg (nI_neg1 (show s' < 2 ^ 31 by omega))]
        cases f with
        | zero => rw [if_neg (show ¬ (0 : Int32) ≤ nI 0 - 1 by decide), if_pos trivial, if_pos rfl]; rfl
        | succ f =>
          rw [show nI (f + 1) - 1 = nI f from nI_pred f, if_pos (show (0 : Int32) ≤ nI f from nI_le (a := 0) (Nat.zero_le _) (by omega)), standAt_ok, bd, rdL_n _ (by omega) (by decide), bd, hT f s' (by omega) (by omega), if_pos trivial, if_neg (Nat.succ_ne_zero f), Nat.add_sub_cancel]
      · simp only [if_neg hF]
        rw [if_pos trivial, if_pos (show (0 : Int32) ≤ nI f from nI_le (a := 0) (Nat.zero_le _) (by omega)), standAt_ok, bd, rdL_n _ (by omega) (by decide), bd, hT f s' hf8 (by omega), if_neg (show ¬ (0 : Int) = 1 by decide)]
  · rw [if_neg hm, if_pos rfl, if_neg hm, bd]
    unfold f_X8_standOn_39
    rw [if_pos rfl, if_pos rfl]
    split <;> rfl
end ONST
