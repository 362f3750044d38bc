/-! MOST: the reference's most firsts -/
section MOST
variable {N K P : Nat} {S : Nat → Nat} {W T : Nat → Nat → Nat} {mw fw : Nat → Int32}
def fRow (W : Nat → Nat → Nat) (P a : Nat) : Row := frow P (fB W P a)
theorem map_ffl : ∀ n a, (ffl W P a n).map (frow P) = rf (fRow W P) a n
  | 0, _ => rfl
  | n + 1, a => by rw [ffl, List.map_cons, map_ffl n (a + 1), rf]; rfl
/-- as many as may have a first place -/
def mN (K P : Nat) (W : Nat → Nat → Nat) (σ : Sv) : Nat := match bw P (rf (fRow W P) 0 K) σ with
  | none => 0
  | some q => q.1.toNat
theorem mN_spec (K P : Nat) (W : Nat → Nat → Nat) (σ : Sv) : (∃ M, bw P (rf (fRow W P) 0 K) σ = some ((mN K P W σ : Int), M)) ∧ (∀ C, mN K P W σ ≤ cov P (ffl W P 0 K) σ C) ∧ ∃ C, cov P (ffl W P 0 K) σ C = mN K P W σ := by
  obtain ⟨B, M, h1, h2, h3⟩ := koenig P (ffl W P 0 K) σ
  rw [map_ffl] at h1
  have e : mN K P W σ = B := by
    unfold mN
    rw [h1]
    simp
  rw [e]
  exact ⟨⟨M, h1⟩, h2, h3⟩
def vFst (W : Nat → Nat → Nat) (P a o : Nat) : Int64 := match o with
  | 0 => 0
  | q + 1 => if fB W P a q = true then -1 else zL NV
theorem vFst_ok {cost : Nat → Int64} (h : FilL P (vFst W P) K 0 cost) : CostOk K P W cost ∧ ∀ a o, a < K → o ≤ P → cRow cost a o = fRow W P a o := by
  have e : ∀ a o, a < K → o ≤ P → cost (a * 7 + o) = vFst W P a o := fun a o ha ho => h a o ho (Or.inl ha)
  constructor
  · intro a o ha ho
    rw [e a o ha ho]
    unfold vFst
    cases o with
    | zero => exact Or.inr ⟨(by show -BB ≤ (0 : Int64).toInt; decide), (by show (0 : Int64).toInt ≤ BB; decide), fun q hq => absurd hq (by omega)⟩
    | succ q =>
      simp only
      by_cases hf : fB W P a q = true
      · rw [if_pos hf]
        refine Or.inr ⟨by decide, by decide, fun q' hq' => ?_⟩
        rw [show q' = q by omega]
        unfold fB at hf
        simp only [Bool.and_eq_true, decide_eq_true_eq] at hf
        exact hf.1
      · rw [if_neg hf]; exact Or.inl rfl
  · intro a o ha ho
    unfold cRow
    rw [e a o ha ho]
    unfold vFst fRow frow
    cases o with
    | zero => simp only; rw [if_neg (by decide)]; rfl
    | succ q =>
      simp only
      by_cases hf : fB W P a q = true
      · rw [if_pos hf, if_neg (show ¬ (-1 : Int64) = zL NV by decide), if_pos ⟨hf, by omega⟩]; rfl
      · rw [if_neg hf, if_pos rfl, if_neg (fun z => hf z.1)]
theorem mf_12 (hK : K ≤ 8) (hP : P ≤ 6) (hW : ∀ a q, W a q ≤ 6) (hw : ∀ a q, a < 8 → q < 6 → mw (a * 6 + q) = nI (W a q)) {a : Nat} (ha : a < K) (hfw : fw a = nI (fwR W a P)) {c_full : Int32} {c_found : (Nat → Int32)} {c_least : (Nat → Int64)} {c_seats : (Nat → Int32)} {c_weight : (Nat → Int32)} {v1 : Int32} (k2 : Int32 → (Nat → Int64) → (Nat → Int32) → (Nat → Int64) → (Nat → Int32) → (Nat → Int32) → Int32 → Int32 → Option (Int32 × Int32 × (Nat → Int64) × (Nat → Int32) × (Nat → Int64) × (Nat → Int32) × (Nat → Int32))) :
    ∀ (n o : Nat) (c_cost : Nat → Int64), o ≤ P + 1 → P + 1 - o < n → FilL P (vFst W P) a o c_cost →
      ∃ cost', f_X8_mostFirsts_12 N (nI K) (nI P) fw mw k2 n c_full c_cost c_found c_least c_seats c_weight v1 (nI a) (nI o) = k2 c_full cost' c_found c_least c_seats c_weight v1 (nI (a + 1)) ∧ FilL P (vFst W P) (a + 1) 0 cost' := by
  intro n
  induction n with
  | zero => intro o c h1 h2; omega
  | succ n ih =>
    intro o cost h1 h2 h3
    rw [f_X8_mostFirsts_12]
    by_cases hc : P < o
    · have : o = P + 1 := by omega
      subst this
      rw [if_pos (nI_lt hc (by omega)), nI_1]
      exact ⟨cost, rfl, FilL_next h3⟩
    · have put : ∀ z : Int64, z = vFst W P a o → ∃ cost', f_X8_mostFirsts_85 N (nI K) (nI P) fw mw (f_X8_mostFirsts_12 N (nI K) (nI P) fw mw k2 n) c_full cost c_found c_least c_seats c_weight v1 (nI a) (nI o) (nI (a * 7 + o)) z = k2 c_full cost' c_found c_least c_seats c_weight v1 (nI (a + 1)) ∧ FilL P (vFst W P) (a + 1) 0 cost' := by
        intro z hz
        unfold f_X8_mostFirsts_85
        rw [wrL_n _ _ (by omega) (by decide), bd, nI_1]
        exact ih (o + 1) _ (by omega) (by omega) (FilL_upd hP h3 (by omega) hz)
      rw [if_neg (nI_nlt (by omega) (by omega)), ix7']
      cases o with
      | zero =>
        rw [if_pos (show nI 0 = 0 from rfl)]
        exact put 0 rfl
      | succ q =>
        have h6 := hW a q
        have h7 := fwR_7 (W := W) a P
        rw [if_neg (nI_ne0 (by omega) (by omega)), show (6 * nI a + nI (q + 1) - 1 : Int32) = nI (a * 6 + q) by rw [ix6', show a * 6 + (q + 1) = a * 6 + q + 1 by omega]; exact nI_pred _, rdI_n _ (by omega) (by decide), bd, hw a q (by omega) (by omega)]
        by_cases h0 : W a q = 0
        · rw [if_pos (by rw [h0]; decide)]
          unfold f_X8_mostFirsts_82
          exact put _ (by show _ = if fB W P a q = true then (-1 : Int64) else zL NV; rw [if_neg (by unfold fB; simp [h0])]; rfl)
        · rw [if_neg (by rw [q_le0 (by omega)]; exact h0), bd, rdI_n _ (by omega) (by decide), bd, hfw]
          by_cases he : W a q = fwR W a P
          · rw [if_pos (by rw [he])]
            exact put _ (by show _ = if fB W P a q = true then (-1 : Int64) else zL NV; rw [if_pos (by unfold fB; rw [decide_eq_true (by omega), decide_eq_true he]; rfl)])
          · rw [if_neg (nI_ne (by omega) (by omega) he)]
            unfold f_X8_mostFirsts_82
            exact put _ (by show _ = if fB W P a q = true then (-1 : Int64) else zL NV; rw [if_neg (by unfold fB; rw [decide_eq_false he]; simp)]; rfl)
/-- what is found at the end of the costs, with seats σ -/
theorem mf_end (hN : 40000 ≤ N) (hK : K ≤ 8) (hP : P ≤ 6) (hW : ∀ a q, W a q ≤ 6) (hw : ∀ a q, a < 8 → q < 6 → mw (a * 6 + q) = nI (W a q)) {σ : Sv} (hσ : ∀ q, q < 6 → σ q ≤ 3) {seats : Nat → Int32} (hs : ∀ q, q < 6 → seats q = nI (σ q)) {cost : Nat → Int64} (hc : FilL P (vFst W P) K 0 cost) (full : Int32) (found weight : Nat → Int32) (least : Nat → Int64) :
    ∃ found' least' weight' z full', f_X8_findLeast N (nI K) (nI P) cost seats mw full found least weight = some (z, full', found', least', weight') ∧ (-z).toInt32 = nI (mN K P W σ) ∧ mN K P W σ < 1000 := by
  obtain ⟨c1, c2⟩ := vFst_ok hc
  obtain ⟨⟨M, hb⟩, hle, -⟩ := mN_spec K P W σ
  have hb' : bw P (cF K P cost 0) σ = some ((mN K P W σ : Int), M) := by
    unfold cF
    rw [← hb]
    exact bw_cong2 P _ _ (K - 0) 0 σ σ (fun i o h1 h2 h3 => c2 i o (by omega) h3) (fun _ _ => rfl)
  have hlt : mN K P W σ < 1000 := by
    have h1 := hle (fun _ => false)
    have h2 := kun_ffl_le (P := P) (W := W) (fun _ => false) K 0
    have h3 : ksz σ (fun _ => false) P = 0 := fb_sm_zero_of (fun k _ => by simp)
    unfold cov at h1
    rw [h3] at h1
    omega
  obtain ⟨found', least', weight', f1, -⟩ := X8_findLeast_ok (N := N) c1 hK hP hs hσ hW hw hN hb' full found weight least
  refine ⟨found', least', weight', _, _, f1, ?_, hlt⟩
  rw [zL_neg, Int.neg_neg, zL_i ⟨by omega, by omega⟩, zI_nat]
theorem mf_2 (hN : 40000 ≤ N) (hK : K ≤ 8) (hP : P ≤ 6) (hS : ∀ q, q < 6 → S q ≤ 3) (hW : ∀ a q, W a q ≤ 6) (hw : ∀ a q, a < 8 → q < 6 → mw (a * 6 + q) = nI (W a q)) (hfw : ∀ a, a < K → fw a = nI (fwR W a P)) {c_full : Int32} {c_found : (Nat → Int32)} {c_least : (Nat → Int64)} {c_weight : (Nat → Int32)} {ms : Nat → Int32} (hs : ∀ q, q < 6 → ms q = nI (S q)) :
    ∀ (n a : Nat) (c_cost : Nat → Int64), a ≤ K → K - a < n → FilL P (vFst W P) a 0 c_cost →
      (∃ full' cost' found' least' weight', f_X8_mostFirsts_2 N (nI K) (nI P) fw mw n c_full c_cost c_found c_least ms c_weight (-1 : Int32) (nI a) = some (nI (mN K P W S), full', cost', found', least', ms, weight') ∧ mN K P W S < 1000) ∧
      ∀ p, p < P → 0 < S p → ∃ full' cost' found' least' weight', f_X8_mostFirsts_2 N (nI K) (nI P) fw mw n c_full c_cost c_found c_least ms c_weight (nI p) (nI a) = some (nI (mN K P W (dec S p)), full', cost', found', least', ms, weight') ∧ mN K P W (dec S p) < 1000 := by
  intro n
  induction n with
  | zero => intro a c h1 h2; omega
  | succ n ih =>
    intro a cost h1 h2 h3
    by_cases hc : K ≤ a
    · have : a = K := by omega
      subst this
      constructor
      · rw [f_X8_mostFirsts_2, if_pos (nI_le (Nat.le_refl _) (by omega)), if_pos rfl]
        unfold f_X8_mostFirsts_122
        obtain ⟨found', least', weight', z, full', f1, f2, f3⟩ := mf_end (N := N) hN hK hP hW hw hS hs h3 c_full c_found c_weight c_least
        rw [f1, bd]
        simp only
        rw [if_pos trivial, f2]
        exact ⟨_, _, _, _, _, rfl, f3⟩
      · intro p hp hp0
        rw [f_X8_mostFirsts_2, if_pos (nI_le (Nat.le_refl _) (by omega)), if_neg (nI_neg1 (by omega)), rdI_n _ (by omega) (by decide), bd, bd, show ms p - 1 = nI (S p - 1) by rw [hs p (by omega)]; exact pk_sub hp0, wrI_n _ _ (by omega) (by decide), bd]
        unfold f_X8_mostFirsts_122
        obtain ⟨found', least', weight', z, full', f1, f2, f3⟩ := mf_end (N := N) (σ := dec S p) (seats := upd ms p (nI (S p - 1))) hN hK hP hW hw (fun q hq => by
            unfold dec
            have := hS q hq
            split <;> omega) (fun q hq => by
            unfold dec
            by_cases e : q = p
            · rw [e, pk_us, if_pos rfl]
            · rw [pk_un e, if_neg e]; exact hs q hq) h3 c_full c_found c_weight c_least
        rw [f1, bd]
        simp only
        rw [if_neg (nI_neg1 (by omega)), wrI_n _ _ (by omega) (by decide), bd, f2]
        have hback : upd (upd ms p (nI (S p - 1))) p (ms p) = ms := funext fun j => by
          unfold upd
          by_cases e : j = p
          · rw [if_pos e, e]
          · rw [if_neg e, if_neg e]
        rw [hback]
        exact ⟨_, _, _, _, _, rfl, f3⟩
    · constructor
      · rw [f_X8_mostFirsts_2, if_neg (nI_ge (by omega) (by omega)), show (0 : Int32) = nI 0 from rfl]
        obtain ⟨cost', e1, e2⟩ := mf_12 (N := N) (c_full := c_full) (c_found := c_found) (c_least := c_least) (c_seats := ms) (c_weight := c_weight) (v1 := -1) hK hP hW hw (show a < K by omega) (hfw a (by omega)) (f_X8_mostFirsts_2 N (nI K) (nI P) fw mw n) N 0 cost (Nat.zero_le _) (by omega) h3
        rw [e1]
        exact (ih (a + 1) cost' (by omega) (by omega) e2).1
      · intro p hp hp0
        rw [f_X8_mostFirsts_2, if_neg (nI_ge (by omega) (by omega)), show (0 : Int32) = nI 0 from rfl]
        obtain ⟨cost', e1, e2⟩ := mf_12 (N := N) (c_full := c_full) (c_found := c_found) (c_least := c_least) (c_seats := ms) (c_weight := c_weight) (v1 := nI p) hK hP hW hw (show a < K by omega) (hfw a (by omega)) (f_X8_mostFirsts_2 N (nI K) (nI P) fw mw n) N 0 cost (Nat.zero_le _) (by omega) h3
        rw [e1]
        exact (ih (a + 1) cost' (by omega) (by omega) e2).2 p hp hp0
end MOST
