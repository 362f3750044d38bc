/-! MANY: standingMany -/
section MANY2
variable {N K P : Nat} {S : Nat → Nat} {W T : Nat → Nat → Nat} {tight freed : Nat} {mw ms weight fw sw : Nat → Int32} {stand : Nat → Int64}
theorem sRow_may2 {x y : Int} {a o : Nat} : sRow W P tight x y a o = if mayB W P tight a o = true then some ((if isF W P a o = true then x else 0) + (if o = 0 then 0 else y)) else none := by
  unfold sRow mayB isF
  cases o with
  | zero =>
    simp only [Bool.false_or, Bool.true_and, decide_eq_true_eq]
    show (if swR W tight a P = 7 then some 0 else none) = if (7 : Nat) = swR W tight a P then _ else none
    by_cases h : swR W tight a P = 7
    · rw [if_pos h, if_pos h.symm]; simp
    · rw [if_neg h, if_neg (fun z => h z.symm)]
  | succ q =>
    simp only [Bool.or_eq_true, Bool.and_eq_true, decide_eq_true_eq]
    by_cases h1 : fB W P a q = true
    · rw [if_pos h1, if_pos (Or.inl h1), if_pos h1, if_neg (Nat.succ_ne_zero q)]
    · rw [if_neg h1]
      by_cases h2 : bt tight q ≠ 1 ∧ wo W a (q + 1) = swR W tight a P
      · rw [if_pos h2, if_pos (Or.inr h2), if_neg h1, if_neg (Nat.succ_ne_zero q), Int.zero_add]
      · rw [if_neg h2, if_neg (fun z => z.elim h1 h2)]
theorem bw_both {x y : Int} : ∀ (n a : Nat) (σ : Sv), bw P (rf (sRow W P tight x y) a n) σ = none → bw P (rf (sRow W P tight 1 0) a n) σ = none
  | 0, a, σ, h => by cases h
  | n + 1, a, σ, h => by
    rw [rf, bw_cons, fo_none] at h ⊢
    intro o ho
    have := h o ho
    unfold cv at this ⊢
    rw [sRow_may2] at this ⊢
    by_cases hm : mayB W P tight a o = true
    · rw [if_pos hm] at this ⊢
      simp only at this ⊢
      cases ht : tk σ o with
      | none => rfl
      | some σ' =>
        rw [ht] at this
        simp only at this ⊢
        cases hb : bw P (rf (sRow W P tight x y) (a + 1) n) σ' with
        | none => rw [bw_both n (a + 1) σ' hb]; rfl
        | some q => rw [hb] at this; cases this
    · rw [if_neg hm]
def vMny (W : Nat → Nat → Nat) (P tight : Nat) (y : Int) (a o : Nat) : Int64 := if mayB W P tight a o = true then zL ((if o = 0 then 0 else -y) - (if isF W P a o = true then 100 else 0)) else zL NV
theorem may_wo (hW : ∀ a q, W a q ≤ 6) {a o : Nat} (h : mayB W P tight a o = true) : ¬ 7 < wo W a o := by
  have := wo_open hW (may_open h)
  omega
theorem mny_small {y : Int} (hy : y = 1 ∨ y = -1) (o : Nat) (b : Bool) : -102 ≤ ((if o = 0 then (0 : Int) else -y) - (if b = true then 100 else 0)) ∧ ((if o = 0 then (0 : Int) else -y) - (if b = true then 100 else 0)) ≤ 102 := by
  split <;> split <;> omega
theorem vMny_ok (hW : ∀ a q, W a q ≤ 6) {y : Int} (hy : y = 1 ∨ y = -1) {cost : Nat → Int64} (h : FilL P (vMny W P tight y) K 0 cost) : CostOk K P W cost ∧ ∀ a o, a < K → o ≤ P → cRow cost a o = sRow W P tight 100 y a o := by
  have e : ∀ a o, a < K → o ≤ P → cost (a * 7 + o) = vMny W P tight y a o := fun a o ha ho => h a o ho (Or.inl ha)
  have hB : BB = 1000000000 := rfl
  have hN : NV = 1000000000000000000 := rfl
  constructor
  · intro a o ha ho
    rw [e a o ha ho]
    unfold vMny
    by_cases hm : mayB W P tight a o = true
    · rw [if_pos hm]
      have hs := mny_small hy o (isF W P a o)
      refine Or.inr ?_
      rw [zL_toInt ⟨by omega, by omega⟩]
      exact ⟨by omega, by omega, may_open hm⟩
    · rw [if_neg hm]; exact Or.inl rfl
  · intro a o ha ho
    unfold cRow
    rw [e a o ha ho, sRow_may2]
    unfold vMny
    by_cases hm : mayB W P tight a o = true
    · rw [if_pos hm, if_pos hm]
      have hs := mny_small hy o (isF W P a o)
      have hne : ¬ zL ((if o = 0 then 0 else -y) - (if isF W P a o = true then 100 else 0)) = zL NV := fun z => by
        have := (zL_eq ⟨by omega, by omega⟩ ⟨by omega, by omega⟩).mp z
        omega
      rw [if_neg hne, zL_toInt ⟨by omega, by omega⟩]
      congr 1
      split <;> split <;> omega
    · rw [if_neg hm, if_pos rfl, if_neg hm]
theorem sm_53 (hN : 40000 ≤ N) (hG : GD K P S W T) (hw : ∀ a q, a < 8 → q < 6 → mw (a * 6 + q) = nI (W a q)) (hfr : freed < 64) (hft : ∀ q, q < P → (bt freed q = 1 ↔ bt tight q ≠ 1)) (hfw : ∀ b, b < K → fw b = nI (fwR W b P)) (hsw : ∀ b, b < K → sw b = nI (swR W tight b P)) {a : Nat} (ha : a < K) {v1 : Int32} {y : Int} (hv1 : (v1 = 0 ∧ y = 1) ∨ (¬ v1 = 0 ∧ y = -1)) {c_full : Int32} {c_firsts : Int32} {c_found : (Nat → Int32)} {c_least : (Nat → Int64)} (k43 : Int32 → Int32 → Int32 → (Nat → Int64) → (Nat → Int32) → (Nat → Int32) → (Nat → Int64) → (Nat → Int32) → (Nat → Int32) → (Nat → Int64) → (Nat → Int32) → Int32 → Int32 → Option (Int32 × Int32 × Int32 × Int32 × (Nat → Int64) × (Nat → Int32) × (Nat → Int32) × (Nat → Int64) × (Nat → Int32) × (Nat → Int32) × (Nat → Int64) × (Nat → Int32))) :
    ∀ (n o : Nat) (cost : Nat → Int64), o ≤ P + 1 → P + 1 - o < n → FilL P (vMny W P tight y) a o cost →
      ∃ cost', f_X8_standingMany_53 N (nI K) (nI P) mw k43 n c_full c_firsts (nI freed) cost fw c_found c_least ms sw stand weight v1 (nI a) (nI o) = k43 c_full c_firsts (nI freed) cost' fw c_found c_least ms sw stand weight v1 (nI (a + 1)) ∧ FilL P (vMny W P tight y) (a + 1) 0 cost' := by
  have hK := hG.K8
  have hP := hG.P6
  intro n
  induction n with
  | zero => intro o c h1 h2; omega
  | succ n ih =>
    intro o cost h1 h2 h3
    rw [f_X8_standingMany_53]
    by_cases hc : P < o
    · have : o = P + 1 := by omega
      subst this
      rw [if_pos (nI_lt hc (by omega)), nI_1]
      exact ⟨cost, rfl, FilL_next h3⟩
    · have put : ∀ z : Int64, z = vMny W P tight y a o → ∃ cost', f_X8_standingMany_137 N (nI K) (nI P) mw (f_X8_standingMany_53 N (nI K) (nI P) mw k43 n) c_full c_firsts (nI freed) cost fw c_found c_least ms sw stand weight v1 (nI a) (nI o) (nI (a * 7 + o)) z = k43 c_full c_firsts (nI freed) cost' fw c_found c_least ms sw stand weight v1 (nI (a + 1)) ∧ FilL P (vMny W P tight y) (a + 1) 0 cost' := by
        intro z hz
        unfold f_X8_standingMany_137
        rw [wrL_n _ _ (by omega) (by decide), bd, nI_1]
        exact ih (o + 1) _ (by omega) (by omega) (FilL_upd hP h3 (by omega) hz)
      have s80 : ∀ s0 : Int, s0 = (if o = 0 then 0 else -y) → ∃ cost', f_X8_standingMany_80 N (nI K) (nI P) mw (f_X8_standingMany_53 N (nI K) (nI P) mw k43 n) c_full c_firsts (nI freed) cost fw c_found c_least ms sw stand weight v1 (nI a) (nI o) (zL s0) = k43 c_full c_firsts (nI freed) cost' fw c_found c_least ms sw stand weight v1 (nI (a + 1)) ∧ FilL P (vMny W P tight y) (a + 1) 0 cost' := by
        intro s0 hs0
        have h8 := wo_le W hG.W6 a o
        unfold f_X8_standingMany_80 f_X8_standingMany_112 f_X8_standingMany_136
        rw [X8_worthOf_ok N hG.W6 hw (show a < 8 by omega) (show o ≤ 6 by omega), bd, ix7']
        by_cases h7 : 7 < wo W a o
        · rw [if_pos (show 7 < nI (wo W a o) from nI_lt (a := 7) h7 (by omega))]
          exact put _ (by unfold vMny; rw [if_neg (fun z => may_wo hG.W6 z h7)]; rfl)
        · rw [if_neg (show ¬ 7 < nI (wo W a o) from nI_nlt (a := 7) (by omega) (by omega)), X8_mayStand_ok hG.W6 hP hw hfr hft (show a < 8 by omega) (by omega) (hfw a ha) (hsw a ha), bd]
          by_cases hm : mayB W P tight a o = true
          · rw [if_pos hm, if_neg one_ne, X8_isFirst_ok hG.W6 hP hw (show a < 8 by omega) (by omega) (hfw a ha), bd]
            by_cases hf : isF W P a o = true
            · rw [if_pos hf, if_neg one_ne]
              exact put _ (by unfold vMny; rw [if_pos hm, if_pos hf, ← hs0, show (100 : Int64) = zL 100 from rfl, zL_sub])
            · rw [if_neg hf, if_pos rfl]
              exact put _ (by unfold vMny; rw [if_pos hm, if_neg hf, ← hs0, show (0 : Int64) = zL 0 from rfl, zL_sub])
          · rw [if_neg hm, if_pos rfl]
            exact put _ (by unfold vMny; rw [if_neg hm]; rfl)
      rw [if_neg (nI_nlt (by omega) (by omega))]
      by_cases h0 : o = 0
      · rw [if_pos (show nI o = 0 by rw [h0]; rfl), show (0 : Int64) = zL 0 from by decide]
        exact s80 0 (by rw [if_pos h0])
      · rw [if_neg (nI_ne0 (by omega) (by omega))]
        rcases hv1 with ⟨g1, g2⟩ | ⟨g1, g2⟩
        · rw [if_pos g1, show (-1 : Int64) = zL (-1) from by decide]
          exact s80 (-1) (by rw [if_neg h0, g2])
        · rw [if_neg g1, show (1 : Int64) = zL 1 from by decide]
          exact s80 1 (by rw [if_neg h0, g2]; rfl)
theorem sm_43 (hN : 40000 ≤ N) (hG : GD K P S W T) (hw : ∀ a q, a < 8 → q < 6 → mw (a * 6 + q) = nI (W a q)) (hfr : freed < 64) (hft : ∀ q, q < P → (bt freed q = 1 ↔ bt tight q ≠ 1)) (hfw : ∀ b, b < K → fw b = nI (fwR W b P)) (hsw : ∀ b, b < K → sw b = nI (swR W tight b P)) (hs : ∀ q, q < 6 → ms q = nI (S q)) {v1 : Int32} {y : Int} (hv1 : (v1 = 0 ∧ y = 1) ∨ (¬ v1 = 0 ∧ y = -1)) {most : Nat} (hm8 : most ≤ 8) {B : Int} {M : Nat} (hb : bw P (rf (sRow W P tight 100 y) 0 K) S = some (B, M)) (hB : b31 B) (hB2 : -1000000000 ≤ B ∧ B ≤ 1000000000) {c_full : Int32} {c_found : (Nat → Int32)} {c_least : (Nat → Int64)} :
    ∀ (n a : Nat) (cost : Nat → Int64), a ≤ K → K - a < n → FilL P (vMny W P tight y) a 0 cost →
      ∃ full' cost' found' least' weight', f_X8_standingMany_43 N (nI K) (nI P) mw n c_full (nI most) (nI freed) cost fw c_found c_least ms sw stand weight v1 (nI a) = some (if v1 = 0 then zI (B - 100 * most) else zI (-(B - 100 * most)), full', nI most, nI freed, cost', fw, found', least', ms, sw, stand, weight') := by
  have hK := hG.K8
  have hP := hG.P6
  have hy : y = 1 ∨ y = -1 := by rcases hv1 with z | z <;> omega
  intro n
  induction n with
  | zero => intro a c h1 h2; omega
  | succ n ih =>
    intro a cost h1 h2 h3
    rw [f_X8_standingMany_43]
    by_cases hc : K ≤ a
    · have : a = K := by omega
      subst this
      rw [if_pos (nI_le (Nat.le_refl _) (by omega))]
      obtain ⟨c1, c2⟩ := vMny_ok hG.W6 hy h3
      have hb' : bw P (cF a P cost 0) S = some (B, M) := by
        unfold cF
        rw [← hb]
        exact bw_cong2 P _ _ (a - 0) 0 S S (fun i o h1 h2 h3 => c2 i o (by omega) h3) (fun _ _ => rfl)
      obtain ⟨found', least', weight', f1, -⟩ := X8_findLeast_ok (N := N) c1 hK hP hs (fun q _ => hG.S3 q) hG.W6 hw hN hb' c_full c_found weight c_least
      rw [f1, bd]
      simp only
      unfold f_X8_standingMany_175
      rw [nI_l (by omega), show (100 : Int64) = zL 100 from rfl, ← zL_nat, zL_mul, zL_add]
      by_cases h0 : v1 = 0
      · rw [if_pos h0, if_pos h0, zL_neg, show -(-B + 100 * (most : Int)) = B - 100 * most by omega, zL_i ⟨by omega, by omega⟩]
        exact ⟨_, _, _, _, _, rfl⟩
      · rw [if_neg h0, if_neg h0, show -B + 100 * (most : Int) = -(B - 100 * most) by omega, zL_i ⟨by omega, by omega⟩]
        exact ⟨_, _, _, _, _, rfl⟩
    · rw [if_neg (nI_ge (by omega) (by omega)), show (0 : Int32) = nI 0 from rfl]
      obtain ⟨cost', e1, e2⟩ := sm_53 (N := N) (ms := ms) (weight := weight) (stand := stand) (c_full := c_full) (c_firsts := nI most) (c_found := c_found) (c_least := c_least) hN hG hw hfr hft hfw hsw (show a < K by omega) hv1 (f_X8_standingMany_43 N (nI K) (nI P) mw n) N 0 cost (Nat.zero_le _) (by omega) h3
      rw [e1]
      exact ih (a + 1) cost' (by omega) (by omega) e2
end MANY2
