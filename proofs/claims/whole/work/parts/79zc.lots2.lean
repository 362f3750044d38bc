/-! LOTS2: whom a member takes, in the reference -/
section LOTS2
variable {N K P : Nat} {S : Nat → Nat} {W : Nat → Nat → Nat}
theorem best_skip {w : Nat → Nat} {av : Nat → Prop} {q o : Nat} (hP : q < 6) (hb : bestOf q w av o) (hx : 0 < w q → av q → ∃ p, o = p + 1 ∧ w p ≤ w q) : bestOf (q + 1) w av o := by
  cases o with
  | zero =>
    intro p p1 p2 p3
    rcases Nat.lt_or_ge p q with z | z
    · exact hb p z p2 p3
    · rw [show p = q by omega] at p2 p3
      obtain ⟨x, hx, _⟩ := hx p2 p3
      cases hx
  | succ y =>
    refine ⟨by have := hb.1; omega, hb.2.1, hb.2.2.1, fun p p1 p2 p3 => ?_⟩
    rcases Nat.lt_or_ge p q with z | z
    · exact hb.2.2.2 p z p2 p3
    · rw [show p = q by omega] at p2 p3 ⊢
      obtain ⟨x, hx, hle⟩ := hx p2 p3
      have : y = x := by omega
      subst this
      have := hb.1
      omega
theorem best_take {w : Nat → Nat} {av : Nat → Prop} {q o : Nat} (hP : q < 6) (hb : bestOf q w av o) (h0 : 0 < w q) (h1 : av q) (hx : ∀ p, o = p + 1 → w q < w p) : bestOf (q + 1) w av (q + 1) := by
  refine ⟨by omega, h0, h1, fun p p1 p2 p3 => ?_⟩
  rcases Nat.lt_or_ge p q with z | z
  · cases o with
    | zero => exact absurd p3 (hb p z p2)
    | succ y =>
      have e1 := hb.2.2.2 p z p2 p3
      have e2 := hx y rfl
      have := hb.1
      omega
  · rw [show p = q by omega]; exact Nat.le_refl _
theorem pk_5 (hP : P ≤ 6) {ms mw weight : Nat → Int32} (hs : ∀ q, q < 6 → ms q = nI (S q)) (hS : ∀ q, q < 6 → S q ≤ 3) (hW : ∀ a q, W a q ≤ 6) (hw : ∀ a q, a < 8 → q < 6 → mw (a * 6 + q) = nI (W a q)) (hwt : ∀ j, j < P → weight j = nI (wgt S j)) {a s : Nat} (ha : a < 8) (hs4 : s < 4096) :
    ∀ (n q o : Nat), q ≤ P → P - q < n → bestOf q (W a) (fun q => 0 < dig S s q) o → ∃ o', bestOf P (W a) (fun q => 0 < dig S s q) o' ∧ f_X8_picks_5 N (nI P) ms weight mw n (nI a) (nI s) (nI o) (nI (q + 1)) = some (nI o') := by
  intro n
  induction n with
  | zero => intro q o h1 h2; omega
  | succ n ih =>
    intro q o hq hn hb
    rw [f_X8_picks_5]
    by_cases hc : P < q + 1
    · have : q = P := by omega
      subst this
      rw [if_pos (nI_lt hc (by omega))]
      exact ⟨o, hb, rfl⟩
    · rw [if_neg (nI_nlt (by omega) (by omega)), X8_takes_ok N hP hs hS hW hw hwt ha (by omega) hs4, bd]
      have ho6 : o ≤ 6 := by
        cases o with
        | zero => omega
        | succ y => have := hb.1; omega
      have h8 := wo_le W hW a o
      have h8q := wo_le W hW a (q + 1)
      by_cases hav : 0 < W a q ∧ 0 < dig S s q
      · have ht : tkS S W a (q + 1) s = some (s - wgt S q) := if_pos hav
        rw [ht]
        unfold oN
        simp only
        have hwq : wo W a (q + 1) = W a q := by unfold wo; simp only; rw [if_neg (by omega)]
        rw [if_neg (nI_neg1 (by omega)), X8_worthOf_ok N hW hw ha (by omega), bd, X8_worthOf_ok N hW hw ha ho6, bd]
        by_cases hle : wo W a o ≤ wo W a (q + 1)
        · rw [if_pos (nI_le hle (by omega)), nI_1]
          refine ih (q + 1) o (by omega) (by omega) (best_skip (by omega) hb (fun _ _ => ?_))
          cases o with
          | zero =>
            have : wo W a 0 = 7 := rfl
            have := hW a q
            omega
          | succ y =>
            refine ⟨y, rfl, ?_⟩
            have h0 := hb.2.1
            have hwy : wo W a (y + 1) = W a y := by unfold wo; simp only; rw [if_neg (by omega)]
            omega
        · rw [if_neg (nI_ge (by omega) (by omega)), nI_1]
          refine ih (q + 1) (q + 1) (by omega) (by omega) (best_take (by omega) hb hav.1 hav.2 (fun p hp => ?_))
          subst hp
          have h0 := hb.2.1
          have hwy : wo W a (p + 1) = W a p := by unfold wo; simp only; rw [if_neg (by omega)]
          omega
      · have ht : tkS S W a (q + 1) s = none := if_neg hav
        rw [ht]
        unfold oN
        simp only
        rw [if_pos trivial, nI_1]
        exact ih (q + 1) o (by omega) (by omega) (best_skip (by omega) hb (fun z1 z2 => absurd ⟨z1, z2⟩ hav))
theorem X8_picks_ok (hN : 40000 ≤ N) (hP : P ≤ 6) {ms mw weight : Nat → Int32} (hs : ∀ q, q < 6 → ms q = nI (S q)) (hS : ∀ q, q < 6 → S q ≤ 3) (hW : ∀ a q, W a q ≤ 6) (hw : ∀ a q, a < 8 → q < 6 → mw (a * 6 + q) = nI (W a q)) (hwt : ∀ j, j < P → weight j = nI (wgt S j)) {a s : Nat} (ha : a < 8) (hs4 : s < 4096) :
    ∃ o', bestOf P (W a) (fun q => 0 < dig S s q) o' ∧ f_X8_picks N (nI P) ms weight mw (nI a) (nI s) = some (nI o') :=
  pk_5 hP hs hS hW hw hwt ha hs4 N 0 0 (Nat.zero_le _) (by omega) (fun q hq => absurd hq (Nat.not_lt_zero q))
end LOTS2
