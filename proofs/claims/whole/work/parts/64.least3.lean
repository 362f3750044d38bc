/-! the reference's least cost: the path found is the first of the best -/
theorem sl_cong {w w' : Nat → Nat} : ∀ (n c i : Nat), (∀ j, c ≤ j → j ≤ c + n → w j = w' j) → sl w n c i = sl w' n c i
  | 0, _, _, _ => rfl
  | n + 1, c, i, h => by
    rw [sl, sl, h c (Nat.le_refl _) (by omega), sl_cong n (c + 1) _ (fun j h1 h2 => h j (by omega) (by omega))]
theorem tk_agree {P : Nat} {σ σ' : Sv} (h : ∀ q, q < P → σ q = σ' q) {o : Nat} (ho : o ≤ P) : (tk σ o = none ∧ tk σ' o = none) ∨ ∃ τ τ', tk σ o = some τ ∧ tk σ' o = some τ' ∧ ∀ q, q < P → τ q = τ' q := by
  cases o with
  | zero => exact Or.inr ⟨σ, σ', rfl, rfl, h⟩
  | succ p =>
    unfold tk
    simp only
    rw [← h p (by omega)]
    by_cases h0 : 0 < σ p
    · rw [if_pos h0, if_pos h0]
      exact Or.inr ⟨_, _, rfl, rfl, fun q hq => by unfold dec; rw [h q hq]⟩
    · rw [if_neg h0, if_neg h0]
      exact Or.inl ⟨rfl, rfl⟩
theorem bw_cong2 (P : Nat) (r r' : Nat → Row) (n a : Nat) (σ σ' : Sv) (h : ∀ i o, a ≤ i → i < a + n → o ≤ P → r i o = r' i o) (hσ : ∀ q, q < P → σ q = σ' q) : bw P (rf r a n) σ = bw P (rf r' a n) σ' := by
  rw [bw_clip P (rf r a n) σ σ' (fun q hq => by rw [hσ q hq])]
  exact bw_cong P r r' n a σ' h
theorem cv_cong2 (P : Nat) (r r' : Nat → Row) (n a : Nat) (σ σ' : Sv) (h : ∀ i o, a ≤ i → i < a + (n + 1) → o ≤ P → r i o = r' i o) (hσ : ∀ q, q < P → σ q = σ' q) {o : Nat} (ho : o ≤ P) : cv P (r a) (rf r (a + 1) n) σ o = cv P (r' a) (rf r' (a + 1) n) σ' o := by
  unfold cv
  rw [h a o (Nat.le_refl _) (by omega) ho]
  cases r' a o with
  | none => rfl
  | some γ =>
    simp only
    rcases tk_agree hσ ho with ⟨h1, h2⟩ | ⟨τ, τ', h1, h2, h3⟩
    · rw [h1, h2]
    · rw [h1, h2]
      simp only
      rw [bw_cong2 P r r' n (a + 1) τ τ' (fun i o h4 h5 h6 => h i o (by omega) (by omega) h6) h3]
theorem nth_cong (P : Nat) (r r' : Nat → Row) : ∀ (n a : Nat) (σ σ' : Sv) (i : Nat), (∀ i o, a ≤ i → i < a + n → o ≤ P → r i o = r' i o) → (∀ q, q < P → σ q = σ' q) → nth P (rf r a n) σ i = nth P (rf r' a n) σ' i
  | 0, _, _, _, _, _, _ => rfl
  | n + 1, a, σ, σ', i, h, hσ => by
    have hb := bw_cong2 P r r' (n + 1) a σ σ' h hσ
    rw [rf, rf] at hb
    rw [rf, rf, nth, nth, hb]
    cases hq : bw P (r' a :: rf r' (a + 1) n) σ' with
    | none => rfl
    | some q =>
      simp only
      have hsl : sl (wt (cv P (r a) (rf r (a + 1) n) σ) q.1) P 0 i = sl (wt (cv P (r' a) (rf r' (a + 1) n) σ') q.1) P 0 i :=
        sl_cong P 0 i (fun j h1 h2 => by unfold wt; rw [cv_cong2 P r r' n a σ σ' h hσ (by omega)])
      rw [hsl]
      congr 1
      rcases Nat.lt_or_ge P (sl (wt (cv P (r' a) (rf r' (a + 1) n) σ') q.1) P 0 i).1 with z | z
      · exfalso
        have : ∀ (w : Nat → Nat) (n c i : Nat), (sl w n c i).1 ≤ c + n := by
          intro w n
          induction n with
          | zero => intro c i; exact Nat.le_refl _
          | succ n ih =>
            intro c i
            rw [sl]
            split
            · exact Nat.le_add_right _ _
            · have := ih (c + 1) (i - w c); omega
        have := this (wt (cv P (r' a) (rf r' (a + 1) n) σ') q.1) P 0 i
        omega
      · rcases tk_agree hσ z with ⟨h1, h2⟩ | ⟨τ, τ', h1, h2, h3⟩
        · rw [h1, h2]
        · rw [h1, h2]
          simp only
          exact nth_cong P r r' n (a + 1) τ τ' _ (fun i o h4 h5 h6 => h i o (by omega) (by omega) h6) h3
section LEAST3
variable {N K P : Nat} {S : Nat → Nat} {W : Nat → Nat → Nat} {cost : Nat → Int64} {seats wish : Nat → Int32}
theorem nz {z : Int} (h : LV 8 none z) : 0 < z := by
  simp only [LV, NV, BB] at h
  omega
theorem fl_213 (hC : CostOk K P W cost) (hK : K ≤ 8) (hP : P ≤ 6) (hs : ∀ q, q < 6 → seats q = nI (S q)) (hS : ∀ q, q < 6 → S q ≤ 3) (hW : ∀ a q, W a q ≤ 6) (hw : ∀ a q, a < 8 → q < 6 → wish (a * 6 + q) = nI (W a q)) {weight : Nat → Int32} (hwt : ∀ j, j < P → weight j = nI (wgt S j))
    {least : Nat → Int64} {full : Int32} {a s : Nat} (ha : a < K) (hs4 : s < wgt S P) (hT : LT K P S cost least (a + 1)) (hT0 : LT K P S cost least a) {B : Int} {M : Nat} (hb : bw P (cF K P cost a) (dig S s) = some (B, M))
    (k200 : Int32 → (Nat → Int32) → (Nat → Int64) → (Nat → Int32) → Int32 → Int32 → Option (Int64 × Int32 × (Nat → Int32) × (Nat → Int64) × (Nat → Int32))) {found : Nat → Int32} :
    ∀ (n o : Nat), o ≤ P → P + 1 - o < n → 0 < wt (cv P (cRow cost a) (cF K P cost (a + 1)) (dig S s)) B (sl (wt (cv P (cRow cost a) (cF K P cost (a + 1)) (dig S s)) B) (P - o) o 0).1 →
      ∃ t, tkS S W a (sl (wt (cv P (cRow cost a) (cF K P cost (a + 1)) (dig S s)) B) (P - o) o 0).1 s = some t ∧ (sl (wt (cv P (cRow cost a) (cF K P cost (a + 1)) (dig S s)) B) (P - o) o 0).1 ≤ P ∧
        f_X8_findLeast_213 N (nI K) (nI P) cost seats wish k200 n full found least weight (nI s) (nI a) (nI o) 0 = k200 full (upd found a (nI (sl (wt (cv P (cRow cost a) (cF K P cost (a + 1)) (dig S s)) B) (P - o) o 0).1)) least weight (nI t) (nI (a + 1)) := by
  have hW6 := wgt_le6 S hS hP
  obtain ⟨y0, hy0, hL0⟩ := hT0 s hs4
  rw [hb] at hL0
  simp only [LV] at hL0
  have hm8 : ((K - a : Nat) : Int) * BB ≤ 8 * BB := Int.mul_le_mul_of_nonneg_right (by omega) (by decide)
  intro n
  induction n with
  | zero => intro o h1 h2; omega
  | succ n ih =>
    intro o ho hn hpos
    rw [f_X8_findLeast_213, if_pos rfl, ix7', rdL_n _ (by omega) (by decide), bd]
    -- going on by the next option
    have hskip : wt (cv P (cRow cost a) (cF K P cost (a + 1)) (dig S s)) B o = 0 → ∃ t, tkS S W a (sl (wt (cv P (cRow cost a) (cF K P cost (a + 1)) (dig S s)) B) (P - o) o 0).1 s = some t ∧ (sl (wt (cv P (cRow cost a) (cF K P cost (a + 1)) (dig S s)) B) (P - o) o 0).1 ≤ P ∧
        f_X8_findLeast_213 N (nI K) (nI P) cost seats wish k200 n full found least weight (nI s) (nI a) (nI (o + 1)) 0 = k200 full (upd found a (nI (sl (wt (cv P (cRow cost a) (cF K P cost (a + 1)) (dig S s)) B) (P - o) o 0).1)) least weight (nI t) (nI (a + 1)) := by
      intro h0
      by_cases hoP : o = P
      · subst hoP
        rw [Nat.sub_self] at hpos
        have e : (sl (wt (cv o (cRow cost a) (cF K o cost (a + 1)) (dig S s)) B) 0 o 0).1 = o := rfl
        rw [e] at hpos
        omega
      · have e : sl (wt (cv P (cRow cost a) (cF K P cost (a + 1)) (dig S s)) B) (P - o) o 0 = sl (wt (cv P (cRow cost a) (cF K P cost (a + 1)) (dig S s)) B) (P - (o + 1)) (o + 1) 0 := by
          rw [show P - o = P - (o + 1) + 1 by omega, sl, h0, if_neg (Nat.lt_irrefl 0), Nat.sub_zero]
        rw [e] at hpos ⊢
        exact ih (o + 1) (by omega) (by omega) hpos
    have hgo : wt (cv P (cRow cost a) (cF K P cost (a + 1)) (dig S s)) B o = 0 → ∀ x, f_X8_findLeast_302 N (nI K) (nI P) cost seats wish (f_X8_findLeast_213 N (nI K) (nI P) cost seats wish k200 n) full found least weight (nI s) (nI a) (nI o) x = f_X8_findLeast_213 N (nI K) (nI P) cost seats wish k200 n full found least weight (nI s) (nI a) (nI (o + 1)) 0 := by
      intro _ x
      unfold f_X8_findLeast_302 f_X8_findLeast_303
      rw [if_pos rfl, nI_1]
    by_cases hc0 : cost (a * 7 + o) = zL NV
    · have hw0 : wt (cv P (cRow cost a) (cF K P cost (a + 1)) (dig S s)) B o = 0 := by unfold wt cv cRow; rw [if_pos hc0]
      rw [if_pos (show cost (a * 7 + o) = 1000000000000000000 from hc0)]
      unfold f_X8_findLeast_247
      rw [if_pos rfl, hgo hw0]
      exact hskip hw0
    · obtain ⟨c1, c2, c3⟩ : -BB ≤ (cost (a * 7 + o)).toInt ∧ (cost (a * 7 + o)).toInt ≤ BB ∧ ∀ q, o = q + 1 → 0 < W a q := by
        rcases hC a o ha ho with h | h
        · exact absurd h hc0
        · exact h
      have hrow : cRow cost a o = some (-(cost (a * 7 + o)).toInt) := by unfold cRow; rw [if_neg hc0]
      have htk := tkS_tk (S := S) (W := W) (a := a) (o := o) (s := s) c3
      rw [if_neg (show ¬ cost (a * 7 + o) = 1000000000000000000 from hc0), X8_takes_ok N hP hs hS hW hw hwt (by omega) ho (by omega), bd]
      cases ht : tkS S W a o s with
      | none =>
        rw [ht] at htk
        have hw0 : wt (cv P (cRow cost a) (cF K P cost (a + 1)) (dig S s)) B o = 0 := by unfold wt cv; rw [hrow]; simp only; rw [htk]; rfl
        unfold f_X8_findLeast_247 oN
        simp only
        rw [if_pos trivial, hgo hw0]
        exact hskip hw0
      | some t =>
        rw [ht] at htk
        have hts := tkS_le ht
        obtain ⟨y, hy1, hy2⟩ := hT t (by omega)
        unfold f_X8_findLeast_247 oN
        simp only
        rw [if_neg (nI_neg1 (by omega)), ix7', rdL_n _ (by omega) (by decide), bd, nI_1, ixW, rdL_n _ (by omega) (by decide), bd, ixW, rdL_n _ (by omega) (by decide), bd, hy0, hy1, show cost (a * 7 + o) = zL (cost (a * 7 + o)).toInt from (zL_of _).symm, zL_add]
        have hm1 : ((K - (a + 1) : Nat) : Int) * BB ≤ 8 * BB := Int.mul_le_mul_of_nonneg_right (by omega) (by decide)
        generalize (cost (a * 7 + o)).toInt = z at c1 c2 hrow ⊢
        cases hbw : bw P (cF K P cost (a + 1)) (dig S t) with
        | none =>
          rw [hbw] at hy2
          simp only [LV] at hy2
          have hw0 : wt (cv P (cRow cost a) (cF K P cost (a + 1)) (dig S s)) B o = 0 := by unfold wt cv; rw [hrow]; simp only; rw [htk]; simp only [Option.map_some]; rw [hbw]; rfl
          have hne : ¬ zL (z + y) = zL y0 := by
            intro e
            have := (zL_eq (by simp only [BB, NV] at *; unfold b63; omega) (by simp only [BB, NV] at *; unfold b63; omega)).mp e
            simp only [BB, NV] at *
            omega
          rw [if_neg hne, hgo hw0]
          exact hskip hw0
        | some q =>
          rw [hbw] at hy2
          simp only [LV] at hy2
          have hcv : cv P (cRow cost a) (cF K P cost (a + 1)) (dig S s) o = some (-z + q.1, q.2) := cv_mk hrow htk (by rw [hbw])
          have hqp := bw_pos P _ _ _ _ hbw
          have hzz : (zL (z + y) = zL y0) ↔ -z + q.1 = B := by
            rw [zL_eq (by simp only [BB, NV] at *; unfold b63; omega) (by simp only [BB, NV] at *; unfold b63; omega)]
            omega
          by_cases he : -z + q.1 = B
          · have hwp : 0 < wt (cv P (cRow cost a) (cF K P cost (a + 1)) (dig S s)) B o := by unfold wt; rw [hcv]; simp only; rw [if_pos he]; exact hqp
            have e : (sl (wt (cv P (cRow cost a) (cF K P cost (a + 1)) (dig S s)) B) (P - o) o 0).1 = o := by
              rcases Nat.eq_or_lt_of_le ho with z | z
              · rw [show P - o = 0 by omega]; rfl
              · rw [show P - o = P - (o + 1) + 1 by omega, sl, if_pos hwp]
            rw [e, if_pos (hzz.mpr he)]
            refine ⟨t, ht, ho, ?_⟩
            unfold f_X8_findLeast_303
            rw [if_neg one_ne, wrI_n _ _ (by omega) (by decide), bd]
            obtain ⟨n', rfl⟩ : ∃ n', n = n' + 1 := ⟨n - 1, by omega⟩
            rw [f_X8_findLeast_213, if_neg one_ne, nI_1]
          · have hw0 : wt (cv P (cRow cost a) (cF K P cost (a + 1)) (dig S s)) B o = 0 := by unfold wt; rw [hcv]; simp only; rw [if_neg he]
            rw [if_neg (fun x => he (hzz.mp x)), hgo hw0]
            exact hskip hw0
theorem fl_200 (hC : CostOk K P W cost) (hK : K ≤ 8) (hP : P ≤ 6) (hs : ∀ q, q < 6 → seats q = nI (S q)) (hS : ∀ q, q < 6 → S q ≤ 3) (hW : ∀ a q, W a q ≤ 6) (hw : ∀ a q, a < 8 → q < 6 → wish (a * 6 + q) = nI (W a q)) {weight : Nat → Int32} (hwt : ∀ j, j < P → weight j = nI (wgt S j)) (hN : 40000 ≤ N)
    {least : Nat → Int64} (hT : ∀ b, b ≤ K → LT K P S cost least b) :
    ∀ (m n a s : Nat) (found : Nat → Int32) (B : Int) (M : Nat), K = a + m → m < n → s < wgt S P → bw P (cF K P cost a) (dig S s) = some (B, M) →
      ∃ found', f_X8_findLeast_200 N (nI K) (nI P) cost seats wish n (nI (wgt S P - 1)) found least weight (nI s) (nI a) = some (least (wgt S P - 1), nI (wgt S P - 1), found', least, weight) ∧ (∀ j, j < a → found' j = found j) ∧ ∀ j, j < m → found' (a + j) = nI ((nth P (cF K P cost a) (dig S s) 0).getD j 0) := by
  have hW6 := wgt_le6 S hS hP
  have hWp := wgt_pos S P
  intro m
  induction m with
  | zero =>
    intro n a s found B M hk hn hs4 hb
    obtain ⟨n, rfl⟩ : ∃ n', n = n' + 1 := ⟨n - 1, by omega⟩
    rw [f_X8_findLeast_200, if_pos (nI_le (by omega) (by omega)), rdL_n _ (by omega) (by decide), bd]
    exact ⟨found, rfl, fun _ _ => rfl, fun j hj => absurd hj (Nat.not_lt_zero _)⟩
  | succ m ih =>
    intro n a s found B M hk hn hs4 hb
    obtain ⟨n, rfl⟩ : ∃ n', n = n' + 1 := ⟨n - 1, by omega⟩
    rw [f_X8_findLeast_200, if_neg (nI_ge (by omega) (by omega))]
    have hbc := hb
    rw [cF_cons (by omega), bw_cons] at hbc
    obtain ⟨f1, f2, f3⟩ := fo_some hbc
    have hMp := bw_pos P _ _ _ _ hb
    obtain ⟨-, s2, s3, s4⟩ := sl_spec (wt (cv P (cRow cost a) (cF K P cost (a + 1)) (dig S s)) B) P 0 0 (by rw [show 0 + P + 1 = P + 1 from by omega, ← f3]; show 0 + 0 < M; omega)
    obtain ⟨t, t1, t2, t3⟩ := fl_213 (N := N) hC hK hP hs hS hW hw hwt (full := nI (wgt S P - 1)) (show a < K by omega) hs4 (hT (a + 1) (by omega)) (hT a (by omega)) hb (f_X8_findLeast_200 N (nI K) (nI P) cost seats wish n) (found := found) N 0 (Nat.zero_le _) (by omega) (by rw [Nat.sub_zero]; omega)
    rw [Nat.sub_zero] at t1 t2 t3
    have e0 : f_X8_findLeast_213 N (nI K) (nI P) cost seats wish (f_X8_findLeast_200 N (nI K) (nI P) cost seats wish n) N (nI (wgt S P - 1)) found least weight (nI s) (nI a) 0 0 = f_X8_findLeast_213 N (nI K) (nI P) cost seats wish (f_X8_findLeast_200 N (nI K) (nI P) cost seats wish n) N (nI (wgt S P - 1)) found least weight (nI s) (nI a) (nI 0) 0 := rfl
    rw [e0, t3]
    have hnth : nth P (cF K P cost a) (dig S s) 0 = (sl (wt (cv P (cRow cost a) (cF K P cost (a + 1)) (dig S s)) B) P 0 0).1 :: (match tk (dig S s) (sl (wt (cv P (cRow cost a) (cF K P cost (a + 1)) (dig S s)) B) P 0 0).1 with
      | none => []
      | some σ' => nth P (cF K P cost (a + 1)) σ' (sl (wt (cv P (cRow cost a) (cF K P cost (a + 1)) (dig S s)) B) P 0 0).2) := by
      have e := hb
      rw [cF_cons (by omega)] at e
      rw [cF_cons (by omega), nth, e]
      rfl
    have hz2 : (sl (wt (cv P (cRow cost a) (cF K P cost (a + 1)) (dig S s)) B) P 0 0).2 = 0 := by
      have : fb_sm (wt (cv P (cRow cost a) (cF K P cost (a + 1)) (dig S s)) B) 0 = 0 := rfl
      omega
    rw [hnth, hz2]
    generalize (sl (wt (cv P (cRow cost a) (cF K P cost (a + 1)) (dig S s)) B) P 0 0).1 = o at s2 s3 t1 t2 ⊢
    cases hc : cv P (cRow cost a) (cF K P cost (a + 1)) (dig S s) o with
    | none => unfold wt at s3; rw [hc] at s3; exact absurd s3 (Nat.not_lt_zero _)
    | some c =>
      obtain ⟨γ, σ', b, c1, c2, c3, c4⟩ := cv_some hc
      have htk := tkS_tk (S := S) (W := W) (a := a) (o := o) (s := s) (by
        rcases hC a o (by omega) t2 with h | h
        · unfold cRow at c1; rw [if_pos h] at c1; cases c1
        · exact h.2.2)
      rw [t1, Option.map_some, c2] at htk
      have hσ' : σ' = dig S t := by simpa using htk
      subst hσ'
      rw [c2]
      obtain ⟨found', g1, g2, g3⟩ := ih n (a + 1) t (upd found a (nI o)) b c.2 (by omega) (by omega) (by have := tkS_le t1; omega) c3
      refine ⟨found', g1, fun j hj => by rw [g2 j (by omega), pk_un (by omega)], fun j hj => ?_⟩
      cases j with
      | zero => rw [Nat.add_zero, g2 a (by omega), pk_us]; rfl
      | succ j => rw [show a + (j + 1) = a + 1 + j by omega, g3 j (by omega)]; rfl
/-- the least cost and the first giving that has it -/
theorem X8_findLeast_ok (hC : CostOk K P W cost) (hK : K ≤ 8) (hP : P ≤ 6) (hs : ∀ q, q < 6 → seats q = nI (S q)) (hS : ∀ q, q < 6 → S q ≤ 3) (hW : ∀ a q, W a q ≤ 6) (hw : ∀ a q, a < 8 → q < 6 → wish (a * 6 + q) = nI (W a q)) (hN : 40000 ≤ N)
    {B : Int} {M : Nat} (hb : bw P (cF K P cost 0) S = some (B, M)) (full : Int32) (found weight : Nat → Int32) (least : Nat → Int64) :
    ∃ found' least' weight', f_X8_findLeast N (nI K) (nI P) cost seats wish full found least weight = some (zL (-B), nI (wgt S P - 1), found', least', weight') ∧ ∀ a, a < K → found' a = nI (nthT P (cF K P cost 0) S 0 a) := by
  have hW6 := wgt_le6 S hS hP
  have hWp := wgt_pos S P
  unfold f_X8_findLeast
  obtain ⟨w', w1, w2⟩ := X8_weights N P S seats weight full hP hs hS hN
  rw [w1, bd]
  obtain ⟨least', l1, l2⟩ := fl_6 (N := N) hC hK hP hs hS hW hw w2 hN (found := found) N 0 least (by omega) (by omega) (fun s' hs' => absurd hs' (Nat.not_lt_zero _))
  have hdig : ∀ q, q < P → dig S (wgt S P - 1) q = S q := fun q hq => dig_full S hq
  have hb' : bw P (cF K P cost 0) (dig S (wgt S P - 1)) = some (B, M) := by
    rw [← hb]
    exact bw_clip P _ _ _ (fun q hq => by rw [hdig q hq])
  obtain ⟨found', g1, g2, g3⟩ := fl_200 hC hK hP hs hS hW hw w2 hN l1 K N 0 (wgt S P - 1) found B M (by omega) (by omega) (by omega) hb'
  obtain ⟨y, y1, y2⟩ := l1 0 (Nat.zero_le _) (wgt S P - 1) (by omega)
  rw [hb'] at y2
  simp only [LV] at y2
  have ey : least' (wgt S P - 1) = zL (-B) := by
    have : least' (wgt S P - 1) = zL y := by rw [← y1]; congr 1; omega
    rw [this, y2.1]
  refine ⟨found', least', w', ?_, fun a ha => ?_⟩
  · have e0 : f_X8_findLeast_6 N (nI K) (nI P) cost seats wish N (nI (wgt S P - 1)) found least w' 0 = f_X8_findLeast_6 N (nI K) (nI P) cost seats wish N (nI (wgt S P - 1)) found least w' (nI 0) := rfl
    show f_X8_findLeast_6 N (nI K) (nI P) cost seats wish N (nI (wgt S P - 1)) found least w' 0 = _
    rw [e0, l2]
    have e1 : f_X8_findLeast_200 N (nI K) (nI P) cost seats wish N (nI (wgt S P - 1)) found least' w' (nI (wgt S P - 1)) 0 = f_X8_findLeast_200 N (nI K) (nI P) cost seats wish N (nI (wgt S P - 1)) found least' w' (nI (wgt S P - 1)) (nI 0) := rfl
    rw [e1, g1, ey]
  · have := g3 a ha
    rw [Nat.zero_add] at this
    have e : nth P (cF K P cost 0) (dig S (wgt S P - 1)) 0 = nth P (cF K P cost 0) S 0 := by
      unfold cF
      exact nth_cong P _ _ _ _ _ _ _ (fun _ _ _ _ _ => rfl) hdig
    rw [this, e]
    rfl
end LEAST3
