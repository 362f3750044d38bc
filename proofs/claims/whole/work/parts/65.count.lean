/-! the reference's counts: givings, givingAt, placeOf -/
def zRow (W : Nat → Nat → Nat) (a : Nat) : Row := fun o => match o with
  | 0 => some 0
  | q + 1 => if 0 < W a q then some 0 else none
def zF (K : Nat) (W : Nat → Nat → Nat) (a : Nat) : List Row := rf (zRow W) a (K - a)
def zn (P K : Nat) (W : Nat → Nat → Nat) (a : Nat) (σ : Sv) : Nat := match bw P (zF K W a) σ with
  | none => 0
  | some q => q.2
def zw (P K : Nat) (W : Nat → Nat → Nat) (a : Nat) (σ : Sv) (o : Nat) : Nat := wt (cv P (zRow W a) (zF K W (a + 1)) σ) 0 o
section COUNT
variable {N K P : Nat} {S : Nat → Nat} {W : Nat → Nat → Nat} {seats wish : Nat → Int32}
theorem zF_cons {a : Nat} (h : a < K) : zF K W a = zRow W a :: zF K W (a + 1) := by
  unfold zF
  rw [show K - a = K - (a + 1) + 1 from by omega, rf]
theorem zF_nil : zF K W K = [] := by unfold zF; rw [Nat.sub_self]; rfl
theorem zRow_0 {a o : Nat} {γ : Int} (h : zRow W a o = some γ) : γ = 0 := by
  unfold zRow at h
  split at h
  · simpa using h.symm
  · split at h
    · simpa using h.symm
    · cases h
theorem z_bw (hP : P ≤ 6) : ∀ (m a : Nat) (σ : Sv), K = a + m → ∃ M, bw P (zF K W a) σ = some (0, M) ∧ 0 < M ∧ M ≤ 7 ^ m
  | 0, a, σ, hk => by
    have : a = K := by omega
    subst this
    rw [zF_nil]
    exact ⟨1, rfl, by decide, by decide⟩
  | m + 1, a, σ, hk => by
    obtain ⟨M', h1, h2, h3⟩ := z_bw hP m (a + 1) σ (by omega)
    have hall : ∀ o c, cv P (zRow W a) (zF K W (a + 1)) σ o = some c → c.1 = 0 ∧ c.2 ≤ 7 ^ m := by
      intro o c hc
      obtain ⟨γ, σ', b, c1, c2, c3, c4⟩ := cv_some hc
      obtain ⟨M2, x1, x2, x3⟩ := z_bw hP m (a + 1) σ' (by omega)
      rw [x1] at c3
      have e := Option.some.inj c3
      have e1 : (0 : Int) = b := congrArg Prod.fst e
      have e2 : M2 = c.2 := congrArg Prod.snd e
      rw [c4, zRow_0 c1, ← e1, ← e2]
      exact ⟨rfl, x3⟩
    have h0 : cv P (zRow W a) (zF K W (a + 1)) σ 0 = some (0 + 0, M') := cv_mk rfl rfl h1
    rw [zF_cons (by omega), bw_cons]
    cases hf : fo (cv P (zRow W a) (zF K W (a + 1)) σ) (P + 1) with
    | none => have := fo_none.mp hf 0 (by omega); rw [h0] at this; cases this
    | some q =>
      obtain ⟨qb, qm⟩ := q
      obtain ⟨f1, ⟨o, ho, mm, f2⟩, f3⟩ := fo_some hf
      have hq0 : qb = 0 := (hall o _ f2).1
      subst hq0
      refine ⟨qm, rfl, ?_, ?_⟩
      · have hw : wt (cv P (zRow W a) (zF K W (a + 1)) σ) 0 0 = M' := by unfold wt; rw [h0]; simp
        have := fb_sm_part (wt (cv P (zRow W a) (zF K W (a + 1)) σ) 0) (show 0 < P + 1 by omega)
        omega
      · rw [f3]
        refine Nat.le_trans (fb_sm_bound (c := 7 ^ m) (fun o ho => ?_)) ?_
        · unfold wt
          cases hc : cv P (zRow W a) (zF K W (a + 1)) σ o with
          | none => exact Nat.zero_le _
          | some c =>
            simp only
            split
            · exact (hall o c hc).2
            · exact Nat.zero_le _
        · rw [Nat.pow_succ, Nat.mul_comm]
          exact Nat.mul_le_mul_left _ (by omega)
theorem z_bw' (hP : P ≤ 6) {a : Nat} (σ : Sv) (ha : a ≤ K) : bw P (zF K W a) σ = some (0, zn P K W a σ) := by
  obtain ⟨M, h, -, -⟩ := z_bw (K := K) (W := W) hP (K - a) a σ (by omega)
  unfold zn
  rw [h]
theorem zn_le (hP : P ≤ 6) {a : Nat} (σ : Sv) (ha : a ≤ K) (hK : K ≤ 8) : zn P K W a σ ≤ 5764801 := by
  obtain ⟨M, h, -, h3⟩ := z_bw (K := K) (W := W) hP (K - a) a σ (by omega)
  unfold zn
  rw [h]
  exact Nat.le_trans h3 (p7 (by omega))
theorem zn_pos (hP : P ≤ 6) {a : Nat} (σ : Sv) (ha : a ≤ K) : 0 < zn P K W a σ := by
  obtain ⟨M, h, h2, -⟩ := z_bw (K := K) (W := W) hP (K - a) a σ (by omega)
  unfold zn
  rw [h]
  exact h2
theorem zn_end {σ : Sv} : zn P K W K σ = 1 := by unfold zn; rw [zF_nil]; rfl
theorem zn_step (hP : P ≤ 6) {a : Nat} (σ : Sv) (ha : a < K) : zn P K W a σ = fb_sm (zw P K W a σ) (P + 1) := by
  have h := z_bw' (W := W) hP σ (show a ≤ K by omega)
  rw [zF_cons ha, bw_cons] at h
  exact (fo_some h).2.2
theorem zw_some (hP : P ≤ 6) {a o : Nat} {σ σ' : Sv} (ha : a < K) (h1 : zRow W a o ≠ none) (h2 : tk σ o = some σ') : zw P K W a σ o = zn P K W (a + 1) σ' := by
  unfold zw wt
  cases hz : zRow W a o with
  | none => exact absurd hz h1
  | some γ =>
    rw [cv_mk hz h2 (z_bw' hP σ' (show a + 1 ≤ K by omega))]
    simp only
    rw [zRow_0 hz, if_pos (by decide)]
theorem zw_none1 {a o : Nat} {σ : Sv} (h1 : zRow W a o = none) : zw P K W a σ o = 0 := by
  unfold zw wt cv
  rw [h1]
theorem zw_none2 {a o : Nat} {σ : Sv} (h1 : tk σ o = none) : zw P K W a σ o = 0 := by
  unfold zw wt cv
  cases zRow W a o with
  | none => rfl
  | some γ => simp only; rw [h1]
/-- what an option counts, by states -/
theorem zw_tkS (hP : P ≤ 6) {a o s : Nat} (ha : a < K) : zw P K W a (dig S s) o = match tkS S W a o s with
    | none => 0
    | some t => zn P K W (a + 1) (dig S t) := by
  cases o with
  | zero => exact zw_some hP ha (by unfold zRow; intro z; cases z) rfl
  | succ q =>
    by_cases hw : 0 < W a q
    · have htk := tkS_tk (S := S) (W := W) (a := a) (o := q + 1) (s := s) (fun p hp => by rw [show p = q by omega]; exact hw)
      cases ht : tkS S W a (q + 1) s with
      | none => rw [ht] at htk; exact zw_none2 htk
      | some t => rw [ht] at htk; exact zw_some hP ha (by unfold zRow; simp only; rw [if_pos hw]; intro z; cases z) htk
    · rw [zw_none1 (by unfold zRow; simp only; rw [if_neg hw])]
      unfold tkS
      simp only
      rw [if_neg (fun z => hw z.1)]
def CT (P K : Nat) (S : Nat → Nat) (W : Nat → Nat → Nat) (count : Nat → Int64) (a : Nat) : Prop := ∀ s, s < wgt S P → count (4096 * a + s) = lN (zn P K W a (dig S s))
theorem CT_upd {count : Nat → Int64} {a b s : Nat} {v : Int64} (hP : wgt S P ≤ 4096) (hs : s < wgt S P) (hab : a ≠ b) (h : CT P K S W count b) : CT P K S W (vp_updL count (4096 * a + s) v) b := by
  intro s2 hs2
  rw [pk_uLn (by omega)]
  exact h s2 hs2
section FC
theorem lN_0 : (0 : Int64) = lN 0 := rfl
theorem fc_62 (hK : K ≤ 8) (hP : P ≤ 6) (hs : ∀ q, q < 6 → seats q = nI (S q)) (hS : ∀ q, q < 6 → S q ≤ 3) (hW : ∀ a q, W a q ≤ 6) (hw : ∀ a q, a < 8 → q < 6 → wish (a * 6 + q) = nI (W a q)) {weight : Nat → Int32} (hwt : ∀ j, j < P → weight j = nI (wgt S j))
    {count : Nat → Int64} {full : Int32} {a s : Nat} (ha : a < K) (hs4 : s < wgt S P) (hT : CT P K S W count (a + 1)) (k49 : Int32 → (Nat → Int64) → (Nat → Int32) → Int32 → Int32 → Option (Int32 × (Nat → Int64) × (Nat → Int32))) :
    ∀ (n o : Nat), o ≤ P + 1 → P + 1 - o < n → f_X8_findCount_62 N (nI K) (nI P) seats wish k49 n full count weight (nI a) (nI s) (lN (fb_sm (zw P K W a (dig S s)) o)) (nI o) = k49 full (vp_updL count (4096 * a + s) (lN (zn P K W a (dig S s)))) weight (nI a) (nI (s + 1)) := by
  have hW6 := wgt_le6 S hS hP
  intro n
  induction n with
  | zero => intro o h1 h2; omega
  | succ n ih =>
    intro o ho hn
    rw [f_X8_findCount_62]
    by_cases hoP : P < o
    · have : o = P + 1 := by omega
      subst this
      rw [if_pos (nI_lt hoP (by omega)), ixW, wrL_n _ _ (by omega) (by decide), bd, nI_1, zn_step hP _ ha]
    · rw [if_neg (nI_nlt (by omega) (by omega)), X8_takes_ok N hP hs hS hW hw hwt (by omega) (by omega) (by omega), bd]
      have hz := zw_tkS (K := K) (S := S) (W := W) (o := o) (s := s) hP ha
      have hrec := ih (o + 1) (by omega) (by omega)
      rw [fb_sm_succ, hz] at hrec
      cases ht : tkS S W a o s with
      | none =>
        rw [ht] at hrec
        unfold oN
        simp only
        rw [if_pos trivial, nI_1, Int64.add_zero]
        exact hrec
      | some t =>
        rw [ht] at hrec
        have := tkS_le ht
        unfold oN
        simp only
        rw [if_neg (nI_neg1 (by omega)), nI_1, ixW, rdL_n _ (by omega) (by decide), bd, hT t (by omega), lN_add, nI_1]
        exact hrec
theorem fc_49 (hN : 40000 ≤ N) (hK : K ≤ 8) (hP : P ≤ 6) (hs : ∀ q, q < 6 → seats q = nI (S q)) (hS : ∀ q, q < 6 → S q ≤ 3) (hW : ∀ a q, W a q ≤ 6) (hw : ∀ a q, a < 8 → q < 6 → wish (a * 6 + q) = nI (W a q)) {weight : Nat → Int32} (hwt : ∀ j, j < P → weight j = nI (wgt S j))
    {a : Nat} (ha : a < K) (k43 : Int32 → (Nat → Int64) → (Nat → Int32) → Int32 → Option (Int32 × (Nat → Int64) × (Nat → Int32))) :
    ∀ (n s : Nat) (count : Nat → Int64), s ≤ wgt S P → wgt S P - s < n → (∀ b, a < b → b ≤ K → CT P K S W count b) → (∀ s', s' < s → count (4096 * a + s') = lN (zn P K W a (dig S s'))) →
      ∃ count', (∀ b, a ≤ b → b ≤ K → CT P K S W count' b) ∧ f_X8_findCount_49 N (nI K) (nI P) seats wish k43 n (nI (wgt S P - 1)) count weight (nI a) (nI s) = k43 (nI (wgt S P - 1)) count' weight (nI a - 1) := by
  have hW6 := wgt_le6 S hS hP
  have hWp := wgt_pos S P
  intro n
  induction n with
  | zero => intro s count h1 h2; omega
  | succ n ih =>
    intro s count hs1 hn hb hlow
    rw [f_X8_findCount_49]
    by_cases hsF : wgt S P - 1 < s
    · rw [if_pos (nI_lt hsF (by omega))]
      have em : nI a + (-1) = nI a - 1 := by
        cases a with
        | zero => decide
        | succ i => rw [pk_m1, nI_pred]
      rw [em]
      refine ⟨count, fun b h1 h2 => ?_, rfl⟩
      rcases Nat.eq_or_lt_of_le h1 with e | e
      · subst e
        intro s' hs'
        exact hlow s' (by omega)
      · exact hb b e h2
    · rw [if_neg (nI_nlt (by omega) (by omega))]
      have h62 := fc_62 (N := N) hK hP hs hS hW hw hwt (count := count) (full := nI (wgt S P - 1)) ha (show s < wgt S P by omega) (hb (a + 1) (by omega) (by omega)) (f_X8_findCount_49 N (nI K) (nI P) seats wish k43 n) N 0 (by omega) (by omega)
      have e0 : f_X8_findCount_62 N (nI K) (nI P) seats wish (f_X8_findCount_49 N (nI K) (nI P) seats wish k43 n) N (nI (wgt S P - 1)) count weight (nI a) (nI s) 0 0 = f_X8_findCount_62 N (nI K) (nI P) seats wish (f_X8_findCount_49 N (nI K) (nI P) seats wish k43 n) N (nI (wgt S P - 1)) count weight (nI a) (nI s) (lN (fb_sm (zw P K W a (dig S s)) 0)) (nI 0) := rfl
      rw [e0, h62]
      refine ih (s + 1) _ (by omega) (by omega) (fun b h1 h2 => CT_upd hW6 (by omega) (by omega) (hb b h1 h2)) (fun s' hs' => ?_)
      by_cases hss : s' = s
      · subst hss; exact pk_uLs
      · rw [pk_uLn (by omega)]; exact hlow s' (by omega)
theorem fc_43 (hN : 40000 ≤ N) (hK : K ≤ 8) (hP : P ≤ 6) (hs : ∀ q, q < 6 → seats q = nI (S q)) (hS : ∀ q, q < 6 → S q ≤ 3) (hW : ∀ a q, W a q ≤ 6) (hw : ∀ a q, a < 8 → q < 6 → wish (a * 6 + q) = nI (W a q)) {weight : Nat → Int32} (hwt : ∀ j, j < P → weight j = nI (wgt S j)) :
    ∀ (n j : Nat) (count : Nat → Int64), j ≤ K → j < n → (∀ b, j ≤ b → b ≤ K → CT P K S W count b) →
      ∃ count', (∀ b, b ≤ K → CT P K S W count' b) ∧ f_X8_findCount_43 N (nI K) (nI P) seats wish n (nI (wgt S P - 1)) count weight (nI j - 1) = some (nI (wgt S P - 1), count', weight) := by
  intro n
  induction n with
  | zero => intro j count h1 h2; omega
  | succ n ih =>
    intro j count hj hn hb
    rw [f_X8_findCount_43]
    cases j with
    | zero =>
      rw [if_pos (show nI 0 - 1 < 0 from by decide)]
      exact ⟨count, fun b h => hb b (Nat.zero_le _) h, rfl⟩
    | succ j =>
      rw [nI_pred, if_neg (nI_pos (by omega)), show (0 : Int32) = nI 0 from rfl]
      have hW6 := wgt_le6 S hS hP
      obtain ⟨c1, g1, g2⟩ := fc_49 (N := N) hN hK hP hs hS hW hw hwt (show j < K by omega) (f_X8_findCount_43 N (nI K) (nI P) seats wish n) N 0 count (by omega) (by omega) (fun b h1 h2 => hb b (by omega) h2) (fun s' hs' => absurd hs' (Nat.not_lt_zero _))
      rw [g2]
      exact ih j c1 (by omega) (by omega) g1
theorem fc_6 (hN : 40000 ≤ N) (hK : K ≤ 8) (hP : P ≤ 6) (hs : ∀ q, q < 6 → seats q = nI (S q)) (hS : ∀ q, q < 6 → S q ≤ 3) (hW : ∀ a q, W a q ≤ 6) (hw : ∀ a q, a < 8 → q < 6 → wish (a * 6 + q) = nI (W a q)) {weight : Nat → Int32} (hwt : ∀ j, j < P → weight j = nI (wgt S j)) :
    ∀ (n s : Nat) (count : Nat → Int64), s ≤ wgt S P → wgt S P - s < n → (∀ s', s' < s → count (4096 * K + s') = 1) →
      ∃ count', (∀ b, b ≤ K → CT P K S W count' b) ∧ f_X8_findCount_6 N (nI K) (nI P) seats wish n (nI (wgt S P - 1)) count weight (nI s) = some (nI (wgt S P - 1), count', weight) := by
  have hW6 := wgt_le6 S hS hP
  have hWp := wgt_pos S P
  intro n
  induction n with
  | zero => intro s count h1 h2; omega
  | succ n ih =>
    intro s count hs1 hn hlow
    rw [f_X8_findCount_6]
    by_cases hsF : wgt S P - 1 < s
    · rw [if_pos (nI_lt hsF (by omega))]
      refine fc_43 hN hK hP hs hS hW hw hwt N K count (Nat.le_refl _) (by omega) (fun b h1 h2 => ?_)
      have : b = K := by omega
      subst this
      intro s' hs'
      rw [hlow s' (by omega), zn_end]; rfl
    · rw [if_neg (nI_nlt (by omega) (by omega)), ixW, wrL_n _ _ (by omega) (by decide), bd, nI_1]
      refine ih (s + 1) _ (by omega) (by omega) (fun s' hs' => ?_)
      by_cases hss : s' = s
      · subst hss; exact pk_uLs
      · rw [pk_uLn (by omega)]; exact hlow s' (by omega)
theorem X8_findCount_ok (hN : 40000 ≤ N) (hK : K ≤ 8) (hP : P ≤ 6) (hs : ∀ q, q < 6 → seats q = nI (S q)) (hS : ∀ q, q < 6 → S q ≤ 3) (hW : ∀ a q, W a q ≤ 6) (hw : ∀ a q, a < 8 → q < 6 → wish (a * 6 + q) = nI (W a q)) (full : Int32) (count : Nat → Int64) (weight : Nat → Int32) :
    ∃ count' w', (∀ b, b ≤ K → CT P K S W count' b) ∧ (∀ j, j < P → w' j = nI (wgt S j)) ∧ f_X8_findCount N (nI K) (nI P) seats wish full count weight = some (nI (wgt S P - 1), count', w') := by
  have hW6 := wgt_le6 S hS hP
  unfold f_X8_findCount
  obtain ⟨w', w1, w2⟩ := X8_weights N P S seats weight full hP hs hS hN
  obtain ⟨c', c1, c2⟩ := fc_6 (N := N) hN hK hP hs hS hW hw w2 N 0 count (by omega) (by omega) (fun s' hs' => absurd hs' (Nat.not_lt_zero _))
  rw [w1, bd]
  exact ⟨c', w', c1, w2, c2⟩
end FC
end COUNT
