/-! most firsts, fewest left out, most given: two bases, one order -/
def wRow (f : Nat → Int) (W : Nat → Nat → Nat) (a : Nat) : Row := fun o => if 7 < wo W a o then none else some (f (wo W a o))
/-- numbers by digits -/
def dgv (B : Nat) (c : Nat → Nat) (n : Nat) : Nat := fb_sm (fun d => c d * B ^ d) n
theorem dgv_lt {B : Nat} {c : Nat → Nat} (hB : 9 ≤ B) (h : ∀ d, c d ≤ 8) : ∀ n, dgv B c n < B ^ n
  | 0 => Nat.one_pos
  | n + 1 => by
    have ih := dgv_lt hB h n
    have e : dgv B c (n + 1) = dgv B c n + c n * B ^ n := rfl
    have h1 : c n * B ^ n ≤ (B - 1) * B ^ n := Nat.mul_le_mul_right _ (by have := h n; omega)
    have h2 : B ^ n * B = (B - 1) * B ^ n + B ^ n := by
      rw [Nat.sub_mul, Nat.one_mul, Nat.mul_comm]
      have : B ^ n ≤ B * B ^ n := Nat.le_mul_of_pos_left _ (by omega)
      omega
    rw [e, Nat.pow_succ]
    omega
theorem dgv_le {B : Nat} {c c' : Nat → Nat} (hB : 9 ≤ B) (h : ∀ d, c d ≤ 8) (h' : ∀ d, c' d ≤ 8) (n : Nat) : dgv B c (n + 1) ≤ dgv B c' (n + 1) ↔ (c n < c' n ∨ (c n = c' n ∧ dgv B c n ≤ dgv B c' n)) := by
  have l1 := dgv_lt hB h n
  have l2 := dgv_lt hB h' n
  have e : dgv B c (n + 1) = dgv B c n + c n * B ^ n := rfl
  have e' : dgv B c' (n + 1) = dgv B c' n + c' n * B ^ n := rfl
  rw [e, e']
  rcases Nat.lt_trichotomy (c n) (c' n) with z | z | z
  · have : (c n + 1) * B ^ n ≤ c' n * B ^ n := Nat.mul_le_mul_right _ z
    rw [Nat.add_mul, Nat.one_mul] at this
    constructor
    · intro _; exact Or.inl z
    · intro _; omega
  · rw [z]
    constructor
    · intro h; exact Or.inr ⟨rfl, by omega⟩
    · rintro (h | ⟨_, h⟩)
      · omega
      · omega
  · have : (c' n + 1) * B ^ n ≤ c n * B ^ n := Nat.mul_le_mul_right _ z
    rw [Nat.add_mul, Nat.one_mul] at this
    constructor
    · intro h; omega
    · rintro (h | ⟨h, _⟩)
      · omega
      · omega
theorem dgv_base {B B' : Nat} {c c' : Nat → Nat} (hB : 9 ≤ B) (hB' : 9 ≤ B') (h : ∀ d, c d ≤ 8) (h' : ∀ d, c' d ≤ 8) : ∀ n, dgv B c n ≤ dgv B c' n ↔ dgv B' c n ≤ dgv B' c' n
  | 0 => Iff.rfl
  | n + 1 => by rw [dgv_le hB h h', dgv_le hB' h h', dgv_base hB hB' h h' n]
/-- worths of a giving -/
def cntL (ws : List Nat) (v : Nat) : Nat := match ws with
  | [] => 0
  | w :: t => (if w = v then 1 else 0) + cntL t v
theorem cntL_le : ∀ (ws : List Nat) (v : Nat), cntL ws v ≤ ws.length
  | [], v => Nat.le_refl _
  | w :: t, v => by
    have := cntL_le t v
    rw [cntL, List.length_cons]
    split <;> omega
def sumL (f : Nat → Int) (ws : List Nat) : Int := match ws with
  | [] => 0
  | w :: t => f w + sumL f t
def fFirst (B : Nat) (v : Nat) : Int := if v ≤ 6 then ((B ^ (6 - v) : Nat) : Int) else 0
def fFair (B : Nat) (v : Nat) : Int := -((B ^ (v - 1) : Nat) : Int)
theorem sumL_first (B : Nat) : ∀ (ws : List Nat), (∀ w, w ∈ ws → 1 ≤ w ∧ w ≤ 7) → sumL (fFirst B) ws = (dgv B (fun d => cntL ws (6 - d)) 6 : Nat)
  | [], _ => by
    unfold sumL dgv
    rw [fb_sm_zero_of (fun k _ => by show 0 * _ = 0; rw [Nat.zero_mul])]
    rfl
  | w :: t, h => by
    have ih := sumL_first B t (fun w hw => h w (List.mem_cons_of_mem _ hw))
    have hw := h w List.mem_cons_self
    rw [sumL, ih]
    have e : dgv B (fun d => cntL (w :: t) (6 - d)) 6 = fb_sm (fun d => (if w = 6 - d then 1 else 0) * B ^ d) 6 + dgv B (fun d => cntL t (6 - d)) 6 := by
      unfold dgv
      rw [← fb_sm_add]
      exact fb_sm_cong (fun d _ => by rw [← Nat.add_mul]; rfl)
    have e2 : fFirst B w = (fb_sm (fun d => (if w = 6 - d then 1 else 0) * B ^ d) 6 : Nat) := by
      have : w = 1 ∨ w = 2 ∨ w = 3 ∨ w = 4 ∨ w = 5 ∨ w = 6 ∨ w = 7 := by omega
      unfold fFirst
      rcases this with rfl | rfl | rfl | rfl | rfl | rfl | rfl <;> simp [fb_sm]
    rw [e, e2]
    omega
theorem sumL_fair (B : Nat) : ∀ (ws : List Nat), (∀ w, w ∈ ws → 1 ≤ w ∧ w ≤ 7) → sumL (fFair B) ws = -(dgv B (fun d => cntL ws (d + 1)) 7 : Nat)
  | [], _ => by
    unfold sumL dgv
    rw [fb_sm_zero_of (fun k _ => by show 0 * _ = 0; rw [Nat.zero_mul])]
    rfl
  | w :: t, h => by
    have ih := sumL_fair B t (fun w hw => h w (List.mem_cons_of_mem _ hw))
    have hw := h w List.mem_cons_self
    rw [sumL, ih]
    have e : dgv B (fun d => cntL (w :: t) (d + 1)) 7 = fb_sm (fun d => (if w = d + 1 then 1 else 0) * B ^ d) 7 + dgv B (fun d => cntL t (d + 1)) 7 := by
      unfold dgv
      rw [← fb_sm_add]
      exact fb_sm_cong (fun d _ => by rw [← Nat.add_mul]; rfl)
    have e2 : fFair B w = -(fb_sm (fun d => (if w = d + 1 then 1 else 0) * B ^ d) 7 : Nat) := by
      have : w = 1 ∨ w = 2 ∨ w = 3 ∨ w = 4 ∨ w = 5 ∨ w = 6 ∨ w = 7 := by omega
      unfold fFair
      rcases this with rfl | rfl | rfl | rfl | rfl | rfl | rfl <;> simp [fb_sm]
    rw [e, e2]
    omega
/-- two ways to weigh worths that order alike -/
def Alike (f f' : Nat → Int) : Prop := ∀ ws ws' : List Nat, ws.length ≤ 8 → ws'.length ≤ 8 → (∀ w, w ∈ ws → 1 ≤ w ∧ w ≤ 7) → (∀ w, w ∈ ws' → 1 ≤ w ∧ w ≤ 7) → (sumL f ws ≤ sumL f ws' ↔ sumL f' ws ≤ sumL f' ws')
theorem alike_first {B B' : Nat} (hB : 9 ≤ B) (hB' : 9 ≤ B') : Alike (fFirst B) (fFirst B') := by
  intro ws ws' l l' h h'
  rw [sumL_first B ws h, sumL_first B ws' h', sumL_first B' ws h, sumL_first B' ws' h']
  have := dgv_base (c := fun d => cntL ws (6 - d)) (c' := fun d => cntL ws' (6 - d)) hB hB' (fun d => Nat.le_trans (cntL_le _ _) l) (fun d => Nat.le_trans (cntL_le _ _) l') 6
  omega
theorem alike_fair {B B' : Nat} (hB : 9 ≤ B) (hB' : 9 ≤ B') : Alike (fFair B) (fFair B') := by
  intro ws ws' l l' h h'
  rw [sumL_fair B ws h, sumL_fair B ws' h', sumL_fair B' ws h, sumL_fair B' ws' h']
  have := dgv_base (c := fun d => cntL ws' (d + 1)) (c' := fun d => cntL ws (d + 1)) hB hB' (fun d => Nat.le_trans (cntL_le _ _) l') (fun d => Nat.le_trans (cntL_le _ _) l) 7
  omega
section WORTH
variable {N K P : Nat} {S : Nat → Nat} {W T : Nat → Nat → Nat}
theorem gv_worths (hW : ∀ a q, W a q ≤ 6) (f f' : Nat → Int) : ∀ (n a : Nat) (σ : Sv) (os : List Nat) (v : Int), gv P (rf (wRow f W) a n) σ os = some v → ∃ ws : List Nat, ws.length = n ∧ (∀ w, w ∈ ws → 1 ≤ w ∧ w ≤ 7) ∧ v = sumL f ws ∧ gv P (rf (wRow f' W) a n) σ os = some (sumL f' ws)
  | 0, a, σ, [], v, h => by
    cases h
    exact ⟨[], rfl, fun w hw => by simp at hw, rfl, rfl⟩
  | 0, a, σ, _ :: _, v, h => by cases h
  | n + 1, a, σ, [], v, h => by cases h
  | n + 1, a, σ, o :: os, v, h => by
    rw [rf, gv] at h
    rw [rf, gv]
    split at h
    · rename_i ho
      rw [if_pos ho]
      have h8 := wo_le W hW a o
      have hrow : ∀ f'' : Nat → Int, wRow f'' W a o = if 7 < wo W a o then none else some (f'' (wo W a o)) := fun _ => rfl
      by_cases hw : 7 < wo W a o
      · rw [hrow, if_pos hw] at h; cases h
      · rw [hrow, if_neg hw] at h
        rw [hrow, if_neg hw]
        simp only at h ⊢
        cases ht : tk σ o with
        | none => rw [ht] at h; cases h
        | some σ' =>
          rw [ht] at h
          simp only at h ⊢
          cases hg : gv P (rf (wRow f W) (a + 1) n) σ' os with
          | none => rw [hg] at h; cases h
          | some u =>
            rw [hg] at h
            obtain ⟨ws, w1, w2, w3, w4⟩ := gv_worths hW f f' n (a + 1) σ' os u hg
            refine ⟨wo W a o :: ws, by rw [List.length_cons, w1], fun w hm => ?_, ?_, ?_⟩
            · rcases List.mem_cons.mp hm with z | z
              · rw [z]; omega
              · exact w2 w z
            · rw [sumL, ← w3]
              simpa using h.symm
            · rw [w4]; rfl
    · cases h
/-- weighed alike, the first of the best is the same -/
theorem alike_nth (hK : K ≤ 8) (hW : ∀ a q, W a q ≤ 6) {f f' : Nat → Int} (hA : Alike f f') {B B' : Int} {M M' : Nat} (h : bw P (rf (wRow f W) 0 K) S = some (B, M)) (h' : bw P (rf (wRow f' W) 0 K) S = some (B', M')) : nth P (rf (wRow f W) 0 K) S 0 = nth P (rf (wRow f' W) 0 K) S 0 := by
  have g1 := nth_ok P _ S B M 0 h (bw_pos P _ _ _ _ h)
  have g2 := nth_ok P _ S B' M' 0 h' (bw_pos P _ _ _ _ h')
  obtain ⟨ws, l1, r1, s1, t1⟩ := gv_worths hW f f' K 0 S _ _ g1
  obtain ⟨ws', l2, r2, s2, t2⟩ := gv_worths hW f' f K 0 S _ _ g2
  obtain ⟨_, _, b1, b2⟩ := gv_le P _ _ _ _ t1
  obtain ⟨_, _, b3, b4⟩ := gv_le P _ _ _ _ t2
  rw [h'] at b1; cases b1
  rw [h] at b3; cases b3
  have hA1 := hA ws ws' (by omega) (by omega) r1 r2
  have hA2 := hA ws' ws (by omega) (by omega) r2 r1
  have e1 : sumL f' ws = B' := by
    have : sumL f' ws' ≤ sumL f' ws := hA2.mp (by omega)
    omega
  have e2 : sumL f ws' = B := by
    have : sumL f ws ≤ sumL f ws' := hA1.mpr (by omega)
    omega
  have f1 := nth_first P _ S B M h _ (by rw [t2, e2])
  have f2 := nth_first P _ S B' M' h' _ (by rw [t1, e1])
  have n1 := gv_len P _ _ _ _ g1
  have n2 := gv_len P _ _ _ _ g2
  exact lle_anti _ _ (by rw [n1, n2, rf_len, rf_len]) f1 f2
theorem had_zero (q : Nat) : had K (fun _ => 0) (q + 1) = 0 := fb_ct_zero.mpr (fun a _ => by simp)
theorem worth_some (f : Nat → Int) (W : Nat → Nat → Nat) (S : Nat → Nat) (K P : Nat) : ∃ B M, bw P (rf (wRow f W) 0 K) S = some (B, M) := by
  have h := gv_tl (P := P) (S := S) (K := K) (r := wRow f W) (t := fun _ => 0) (fun _ => Nat.zero_le _) (fun q _ => by rw [had_zero]; exact Nat.zero_le _) K 0 (by omega) (fun i _ _ => by unfold wRow wo; simp)
  rw [lft_0] at h
  obtain ⟨B, M, h1, -⟩ := gv_le P _ _ _ _ h
  exact ⟨B, M, h1⟩
/-- what a giving found may be told -/
theorem gv_valid {r : Nat → Row} : ∀ (n a : Nat) (σ : Sv) (os : List Nat) (v : Int), gv P (rf r a n) σ os = some v → (∀ j, j < n → os.getD j 0 ≤ P ∧ r (a + j) (os.getD j 0) ≠ none) ∧ ∀ q, q < P → fb_ct (fun j => decide (os.getD j 0 = q + 1)) n ≤ σ q
  | 0, a, σ, os, v, h => ⟨fun j hj => absurd hj (Nat.not_lt_zero j), fun q hq => Nat.zero_le _⟩
  | n + 1, a, σ, [], v, h => by cases h
  | n + 1, a, σ, o :: os, v, h => by
    rw [rf, gv] at h
    split at h
    · rename_i ho
      cases hr : r a o with
      | none => rw [hr] at h; cases h
      | some γ =>
        rw [hr] at h
        simp only at h
        cases ht : tk σ o with
        | none => rw [ht] at h; cases h
        | some σ' =>
          rw [ht] at h
          simp only at h
          cases hg : gv P (rf r (a + 1) n) σ' os with
          | none => rw [hg] at h; cases h
          | some u =>
            obtain ⟨i1, i2⟩ := gv_valid n (a + 1) σ' os u hg
            refine ⟨fun j hj => ?_, fun q hq => ?_⟩
            · cases j with
              | zero => exact ⟨ho, by show r a o ≠ none; rw [hr]; intro z; cases z⟩
              | succ j =>
                have := i1 j (by omega)
                rw [show a + (j + 1) = a + 1 + j by omega]
                exact this
            · have hs := fb_ct_split (fun j => decide ((o :: os).getD j 0 = q + 1)) 1 n
              rw [Nat.add_comm 1 n] at hs
              rw [hs]
              have e1 : fb_ct (fun j => decide ((o :: os).getD j 0 = q + 1)) 1 = if o = q + 1 then 1 else 0 := by
                show 0 + (if decide (o = q + 1) = true then 1 else 0) = _
                by_cases e : o = q + 1 <;> simp [e]
              have e2 : fb_ct (fun k => decide ((o :: os).getD (1 + k) 0 = q + 1)) n = fb_ct (fun j => decide (os.getD j 0 = q + 1)) n := fb_ct_cong (fun k _ => by rw [Nat.add_comm 1 k]; rfl)
              rw [e1, e2]
              have := i2 q hq
              unfold tk at ht
              split at ht
              · cases ht
                rw [if_neg (by omega)]
                omega
              · rename_i p
                split at ht
                · rename_i h0
                  cases ht
                  unfold dec at this
                  by_cases e : q = p
                  · rw [if_pos e] at this
                    rw [if_pos (by omega)]
                    subst e
                    omega
                  · rw [if_neg e] at this
                    rw [if_neg (by omega)]
                    omega
                · cases ht
    · cases h
/-- a told giving becomes a row -/
def becT (K : Nat) (T : Nat → Nat → Nat) (g : Nat) (t : Nat → Nat) : Nat → Nat → Nat := fun g' a => if g' = g ∧ a < K then t a else T g' a
theorem GD_bec (hG : GD K P S W T) {g : Nat} (hg : g < 4) {t : Nat → Nat} (h1 : ∀ a, a < K → t a ≤ P) (h2 : ∀ a q, a < K → t a = q + 1 → 0 < W a q) (h3 : ∀ q, q < P → had K t (q + 1) ≤ S q) : GD K P S W (becT K T g t) := by
  refine ⟨⟨hG.K8, hG.P6, hG.1.2.2.1, hG.1.2.2.2.1, hG.W6, hG.WK, hG.WP, fun g' a => ?_, fun g' a ha => ?_, fun g' a q h => ?_, fun g' q hq => ?_⟩, fun g' a h => ?_⟩
  · unfold becT; split
    · rename_i e; exact h1 a e.2
    · exact hG.TP g' a
  · unfold becT; rw [if_neg (by omega)]; exact hG.TK g' a ha
  · unfold becT at h; split at h
    · rename_i e; exact h2 a q e.2 h
    · exact hG.TW g' a q h
  · by_cases e : g' = g
    · refine Nat.le_trans (Nat.le_of_eq (fb_ct_cong (fun a ha => ?_))) (h3 q hq)
      unfold becT
      rw [if_pos ⟨e, ha⟩]
    · have : had K (becT K T g t g') (q + 1) = had K (T g') (q + 1) := fb_ct_cong (fun a ha => by unfold becT; rw [if_neg (fun z => e z.1)])
      rw [this]; exact hG.TS g' q hq
  · unfold becT; rw [if_neg (by omega)]; exact hG.T4 g' a h
theorem GD_nth (hG : GD K P S W T) {g : Nat} (hg : g < 4) {r : Nat → Row} (hr : ∀ a q, W a q = 0 → r a (q + 1) = none) {B : Int} {M i : Nat} (hb : bw P (rf r 0 K) S = some (B, M)) (hi : i < M) : GD K P S W (becT K T g (nthT P (rf r 0 K) S i)) := by
  have h := nth_ok P _ S B M i hb hi
  obtain ⟨v1, v2⟩ := gv_valid K 0 S _ _ h
  refine GD_bec hG hg (fun a ha => (v1 a ha).1) (fun a q ha hq => ?_) v2
  have := (v1 a ha).2
  rw [Nat.zero_add] at this
  rcases Nat.eq_zero_or_pos (W a q) with z | z
  · exact absurd (by unfold nthT at hq; rw [hq]; exact hr a q z) this
  · exact z
end WORTH
