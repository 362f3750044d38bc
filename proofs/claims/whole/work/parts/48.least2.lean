/-! the least cost: the loops -/
def cRow (cost : Nat → Int64) (a : Nat) : Row := fun o => if cost (a * 7 + o) = zL NV then none else some (-(cost (a * 7 + o)).toInt)
/-- what findLeast may be asked: costs are small or never, and never where there is no wish -/
def CostOk (K P : Nat) (W : Nat → Nat → Nat) (cost : Nat → Int64) : Prop :=
  ∀ a o, a < K → o ≤ P → cost (a * 7 + o) = zL NV ∨ (-BB ≤ (cost (a * 7 + o)).toInt ∧ (cost (a * 7 + o)).toInt ≤ BB ∧ ∀ q, o = q + 1 → 0 < W a q)
def cF (K P : Nat) (cost : Nat → Int64) (a : Nat) : List Row := rf (cRow cost) a (K - a)
/-- the table is right at level a -/
def LT (K P : Nat) (S : Nat → Nat) (cost least : Nat → Int64) (a : Nat) : Prop :=
  ∀ s, s < wgt S P → ∃ y, least (4096 * a + s) = zL y ∧ LV (K - a) (bw P (cF K P cost a) (dig S s)) y
section LEAST
variable {N K P : Nat} {S : Nat → Nat} {W : Nat → Nat → Nat} {cost : Nat → Int64} {seats wish : Nat → Int32}
theorem cF_cons {a : Nat} (h : a < K) : cF K P cost a = cRow cost a :: cF K P cost (a + 1) := by
  unfold cF
  rw [show K - a = K - (a + 1) + 1 from by omega, rf]
theorem cF_nil : cF K P cost K = [] := by unfold cF; rw [Nat.sub_self]; rfl
/-- one option's cost -/
def optV (S : Nat → Nat) (W : Nat → Nat → Nat) (cost least : Nat → Int64) (a s o : Nat) : Int64 :=
  if cost (a * 7 + o) = zL NV then zL NV else match tkS S W a o s with
    | none => zL NV
    | some t => cost (a * 7 + o) + least (4096 * (a + 1) + t)
theorem opt_LC (hC : CostOk K P W cost) {least : Nat → Int64} {a s o : Nat} (hK : K ≤ 8) (ha : a < K) (ho : o ≤ P) (hs : s < wgt S P) (hT : LT K P S cost least (a + 1)) :
    ∃ v, optV S W cost least a s o = zL v ∧ LC (K - a) (cv P (cRow cost a) (cF K P cost (a + 1)) (dig S s) o) v := by
  have hb : ((K - a : Nat) : Int) = ((K - (a + 1) : Nat) : Int) + 1 := by omega
  have hb0 : 0 ≤ ((K - (a + 1) : Nat) : Int) * BB := Int.mul_nonneg (by omega) (by decide)
  have hmul : (((K - (a + 1) : Nat) : Int) + 1) * BB = ((K - (a + 1) : Nat) : Int) * BB + BB := by rw [Int.add_mul, Int.one_mul]
  unfold optV
  by_cases h0 : cost (a * 7 + o) = zL NV
  · rw [if_pos h0]
    refine ⟨NV, rfl, ?_⟩
    have : cv P (cRow cost a) (cF K P cost (a + 1)) (dig S s) o = none := by
      unfold cv cRow
      rw [if_pos h0]
    rw [this]
    simp only [LC]
    rw [hb, hmul]
    simp only [NV, BB] at *
    omega
  · rw [if_neg h0]
    obtain ⟨c1, c2, c3⟩ : -BB ≤ (cost (a * 7 + o)).toInt ∧ (cost (a * 7 + o)).toInt ≤ BB ∧ ∀ q, o = q + 1 → 0 < W a q := by
      rcases hC a o ha ho with h | h
      · exact absurd h h0
      · exact h
    have hrow : cRow cost a o = some (-(cost (a * 7 + o)).toInt) := by unfold cRow; rw [if_neg h0]
    have htk := tkS_tk (S := S) (W := W) (a := a) (o := o) (s := s) c3
    cases ht : tkS S W a o s with
    | none =>
      rw [ht] at htk
      simp only
      refine ⟨NV, rfl, ?_⟩
      have : cv P (cRow cost a) (cF K P cost (a + 1)) (dig S s) o = none := by
        unfold cv
        rw [hrow]; simp only
        rw [htk]; rfl
      rw [this]
      simp only [LC]
      rw [hb, hmul]
      simp only [NV, BB] at *
      omega
    | some t =>
      rw [ht] at htk
      simp only
      have hts := tkS_le ht
      obtain ⟨y, hy1, hy2⟩ := hT t (by omega)
      refine ⟨(cost (a * 7 + o)).toInt + y, ?_, ?_⟩
      · rw [hy1, ← zL_add, zL_of]
      · have hcv : cv P (cRow cost a) (cF K P cost (a + 1)) (dig S s) o = (bw P (cF K P cost (a + 1)) (dig S t)).map (fun q => (-(cost (a * 7 + o)).toInt + q.1, q.2)) := by
          unfold cv
          rw [hrow]; simp only
          rw [htk]; rfl
        rw [hcv]
        generalize (cost (a * 7 + o)).toInt = z at c1 c2 ⊢
        cases hbw : bw P (cF K P cost (a + 1)) (dig S t) with
        | none =>
          rw [hbw] at hy2
          simp only [LV] at hy2
          simp only [Option.map_none, LC]
          rw [hb, hmul]
          simp only [NV, BB] at *
          omega
        | some q =>
          rw [hbw] at hy2
          simp only [LV] at hy2
          simp only [Option.map_some, LC]
          rw [hb, hmul]
          simp only [NV, BB] at *
          omega
theorem fl_64 (hC : CostOk K P W cost) (hK : K ≤ 8) (hP : P ≤ 6) (hs : ∀ q, q < 6 → seats q = nI (S q)) (hS : ∀ q, q < 6 → S q ≤ 3) (hW : ∀ a q, W a q ≤ 6) (hw : ∀ a q, a < 8 → q < 6 → wish (a * 6 + q) = nI (W a q)) {weight : Nat → Int32} (hwt : ∀ j, j < P → weight j = nI (wgt S j))
    {least : Nat → Int64} {found : Nat → Int32} {full : Int32} {a s : Nat} (ha : a < K) (hs4 : s < wgt S P) (hT : LT K P S cost least (a + 1))
    (k49 : Int32 → (Nat → Int32) → (Nat → Int64) → (Nat → Int32) → Int32 → Int32 → Option (Int64 × Int32 × (Nat → Int32) × (Nat → Int64) × (Nat → Int32))) :
    ∀ (n o : Nat) (y : Int), o ≤ P + 1 → P + 1 - o < n → LV (K - a) (fo (cv P (cRow cost a) (cF K P cost (a + 1)) (dig S s)) o) y →
      ∃ y', LV (K - a) (bw P (cF K P cost a) (dig S s)) y' ∧ f_X8_findLeast_64 N (nI K) (nI P) cost seats wish k49 n full found least weight (nI a) (nI s) (zL y) (nI o) = k49 full found (vp_updL least (4096 * a + s) (zL y')) weight (nI a) (nI (s + 1)) := by
  have hW6 := wgt_le6 S hS hP
  intro n
  induction n with
  | zero => intro o y h1 h2; omega
  | succ n ih =>
    intro o y ho hn hy
    rw [f_X8_findLeast_64]
    by_cases hoP : P < o
    · have : o = P + 1 := by omega
      subst this
      rw [if_pos (nI_lt hoP (by omega)), ixW, wrL_n _ _ (by omega) (by decide), bd, nI_1]
      exact ⟨y, by rw [cF_cons ha, bw_cons]; exact hy, rfl⟩
    · rw [if_neg (nI_nlt (by omega) (by omega)), ix7', rdL_n _ (by omega) (by decide), bd]
      obtain ⟨v, hv1, hv2⟩ := opt_LC (S := S) hC hK ha (show o ≤ P by omega) hs4 hT
      have hstep : ∀ z, z = zL v → f_X8_findLeast_146 N (nI K) (nI P) cost seats wish (f_X8_findLeast_64 N (nI K) (nI P) cost seats wish k49 n) full found least weight (nI a) (nI s) (zL y) (nI o) z = f_X8_findLeast_64 N (nI K) (nI P) cost seats wish k49 n full found least weight (nI a) (nI s) (zL (if y ≤ v then y else v)) (nI (o + 1)) := by
        intro z hz
        subst hz
        unfold f_X8_findLeast_146
        rw [nI_1]
        by_cases hyv : y ≤ v
        · rw [if_pos ((zL_le (LV_b63 (by omega) hy) (LC_b63 (by omega) hv2)).mpr hyv), if_pos hyv]
        · rw [if_neg (fun h => hyv ((zL_le (LV_b63 (by omega) hy) (LC_b63 (by omega) hv2)).mp h)), if_neg hyv]
      have hnext := ih (o + 1) (if y ≤ v then y else v) (by omega) (by omega) (LV_cmb (by omega) hy hv2)
      obtain ⟨y', g1, g2⟩ := hnext
      refine ⟨y', g1, ?_⟩
      rw [← g2]
      unfold optV at hv1
      by_cases h0 : cost (a * 7 + o) = zL NV
      · rw [if_pos h0] at hv1
        rw [if_pos (show cost (a * 7 + o) = 1000000000000000000 from h0)]
        unfold f_X8_findLeast_104
        rw [if_pos rfl]
        exact hstep _ hv1
      · rw [if_neg h0] at hv1
        rw [if_neg (show ¬ cost (a * 7 + o) = 1000000000000000000 from h0), X8_takes_ok N hP hs hS hW hw hwt (by omega) (by omega) (by omega), bd]
        cases ht : tkS S W a o s with
        | none =>
          rw [ht] at hv1
          simp only at hv1
          unfold f_X8_findLeast_104 oN
          simp only
          rw [if_pos trivial]
          exact hstep _ hv1
        | some t =>
          rw [ht] at hv1
          simp only at hv1
          have := tkS_le ht
          unfold f_X8_findLeast_104 oN
          simp only
          rw [if_neg (nI_neg1 (by omega)), ix7', rdL_n _ (by omega) (by decide), bd, nI_1, ixW, rdL_n _ (by omega) (by decide), bd]
          exact hstep _ hv1
/-- levels other than a are left alone -/
theorem LT_upd {least : Nat → Int64} {a b s : Nat} {v : Int64} (hP : wgt S P ≤ 4096) (hs : s < wgt S P) (hab : a ≠ b) (h : LT K P S cost least b) : LT K P S cost (vp_updL least (4096 * a + s) v) b := by
  intro s2 hs2
  obtain ⟨y, h1, h2⟩ := h s2 hs2
  refine ⟨y, ?_, h2⟩
  unfold vp_updL
  rw [if_neg (by omega)]
  exact h1
theorem fl_49 (hC : CostOk K P W cost) (hK : K ≤ 8) (hP : P ≤ 6) (hs : ∀ q, q < 6 → seats q = nI (S q)) (hS : ∀ q, q < 6 → S q ≤ 3) (hW : ∀ a q, W a q ≤ 6) (hw : ∀ a q, a < 8 → q < 6 → wish (a * 6 + q) = nI (W a q)) {weight : Nat → Int32} (hwt : ∀ j, j < P → weight j = nI (wgt S j)) (hN : 40000 ≤ N)
    {found : Nat → Int32} {a : Nat} (ha : a < K)
    (k43 : Int32 → (Nat → Int32) → (Nat → Int64) → (Nat → Int32) → Int32 → Option (Int64 × Int32 × (Nat → Int32) × (Nat → Int64) × (Nat → Int32))) :
    ∀ (n s : Nat) (least : Nat → Int64), s ≤ wgt S P → wgt S P - s < n → (∀ b, a < b → b ≤ K → LT K P S cost least b) → (∀ s', s' < s → ∃ y, least (4096 * a + s') = zL y ∧ LV (K - a) (bw P (cF K P cost a) (dig S s')) y) →
      ∃ least', (∀ b, a ≤ b → b ≤ K → LT K P S cost least' b) ∧ f_X8_findLeast_49 N (nI K) (nI P) cost seats wish k43 n (nI (wgt S P - 1)) found least weight (nI a) (nI s) = k43 (nI (wgt S P - 1)) found least' weight (nI a + (-1)) := by
  have hW6 := wgt_le6 S hS hP
  have hWp := wgt_pos S P
  intro n
  induction n with
  | zero => intro s least h1 h2; omega
  | succ n ih =>
    intro s least hs1 hn hb hlow
    rw [f_X8_findLeast_49]
    by_cases hsF : wgt S P - 1 < s
    · rw [if_pos (nI_lt hsF (by omega))]
      refine ⟨least, fun b h1 h2 => ?_, rfl⟩
      rcases Nat.eq_or_lt_of_le h1 with e | e
      · subst e
        intro s' hs'
        exact hlow s' (by omega)
      · exact hb b e h2
    · rw [if_neg (nI_nlt (by omega) (by omega))]
      obtain ⟨y', g1, g2⟩ := fl_64 (N := N) hC hK hP hs hS hW hw hwt (least := least) (found := found) (full := nI (wgt S P - 1)) ha (show s < wgt S P by omega) (hb (a + 1) (by omega) (by omega)) (f_X8_findLeast_49 N (nI K) (nI P) cost seats wish k43 n) N 0 NV (by omega) (by omega)
        (by
          have : fo (cv P (cRow cost a) (cF K P cost (a + 1)) (dig S s)) 0 = none := rfl
          rw [this]
          have hb0 : 0 ≤ ((K - a : Nat) : Int) * BB := Int.mul_nonneg (by omega) (by decide)
          simp only [LV]; omega)
      have e0 : f_X8_findLeast_64 N (nI K) (nI P) cost seats wish (f_X8_findLeast_49 N (nI K) (nI P) cost seats wish k43 n) N (nI (wgt S P - 1)) found least weight (nI a) (nI s) 1000000000000000000 0 = f_X8_findLeast_64 N (nI K) (nI P) cost seats wish (f_X8_findLeast_49 N (nI K) (nI P) cost seats wish k43 n) N (nI (wgt S P - 1)) found least weight (nI a) (nI s) (zL NV) (nI 0) := rfl
      rw [e0, g2]
      refine ih (s + 1) _ (by omega) (by omega) (fun b h1 h2 => LT_upd hW6 (by omega) (by omega) (hb b h1 h2)) (fun s' hs' => ?_)
      unfold vp_updL
      by_cases hss : s' = s
      · subst hss
        exact ⟨y', by rw [if_pos rfl], g1⟩
      · rw [if_neg (by omega)]
        exact hlow s' (by omega)
/-- all levels filled: what the tables then say is looked up -/
theorem fl_43 (hC : CostOk K P W cost) (hK : K ≤ 8) (hP : P ≤ 6) (hs : ∀ q, q < 6 → seats q = nI (S q)) (hS : ∀ q, q < 6 → S q ≤ 3) (hW : ∀ a q, W a q ≤ 6) (hw : ∀ a q, a < 8 → q < 6 → wish (a * 6 + q) = nI (W a q)) {weight : Nat → Int32} (hwt : ∀ j, j < P → weight j = nI (wgt S j)) (hN : 40000 ≤ N)
    {found : Nat → Int32} : ∀ (n j : Nat) (least : Nat → Int64), j ≤ K → j < n → (∀ b, j ≤ b → b ≤ K → LT K P S cost least b) →
      ∃ least', (∀ b, b ≤ K → LT K P S cost least' b) ∧ f_X8_findLeast_43 N (nI K) (nI P) cost seats wish n (nI (wgt S P - 1)) found least weight (nI j - 1) = f_X8_findLeast_200 N (nI K) (nI P) cost seats wish N (nI (wgt S P - 1)) found least' weight (nI (wgt S P - 1)) 0 := by
  have hW6 := wgt_le6 S hS hP
  intro n
  induction n with
  | zero => intro j least h1 h2; omega
  | succ n ih =>
    intro j least hj hn hb
    rw [f_X8_findLeast_43]
    cases j with
    | zero =>
      rw [if_pos (show nI 0 - 1 < 0 from by decide)]
      exact ⟨least, fun b h => hb b (Nat.zero_le _) h, rfl⟩
    | succ j =>
      rw [nI_pred, if_neg (nI_pos (by omega))]
      obtain ⟨l1, g1, g2⟩ := fl_49 (N := N) hC hK hP hs hS hW hw hwt hN (found := found) (show j < K by omega) (f_X8_findLeast_43 N (nI K) (nI P) cost seats wish n) N 0 least (by omega) (by omega) (fun b h1 h2 => hb b (by omega) h2) (fun s' hs' => absurd hs' (Nat.not_lt_zero _))
      have e0 : f_X8_findLeast_49 N (nI K) (nI P) cost seats wish (f_X8_findLeast_43 N (nI K) (nI P) cost seats wish n) N (nI (wgt S P - 1)) found least weight (nI j) 0 = f_X8_findLeast_49 N (nI K) (nI P) cost seats wish (f_X8_findLeast_43 N (nI K) (nI P) cost seats wish n) N (nI (wgt S P - 1)) found least weight (nI j) (nI 0) := rfl
      rw [e0, g2]
      have e1 : nI j + (-1) = nI j - 1 := by
        cases j with
        | zero => decide
        | succ i => rw [pk_m1, nI_pred]
      rw [e1]
      exact ih j l1 (by omega) (by omega) g1
theorem fl_6 (hC : CostOk K P W cost) (hK : K ≤ 8) (hP : P ≤ 6) (hs : ∀ q, q < 6 → seats q = nI (S q)) (hS : ∀ q, q < 6 → S q ≤ 3) (hW : ∀ a q, W a q ≤ 6) (hw : ∀ a q, a < 8 → q < 6 → wish (a * 6 + q) = nI (W a q)) {weight : Nat → Int32} (hwt : ∀ j, j < P → weight j = nI (wgt S j)) (hN : 40000 ≤ N)
    {found : Nat → Int32} : ∀ (n s : Nat) (least : Nat → Int64), s ≤ wgt S P → wgt S P - s < n → (∀ s', s' < s → least (4096 * K + s') = 0) →
      ∃ least', (∀ b, b ≤ K → LT K P S cost least' b) ∧ f_X8_findLeast_6 N (nI K) (nI P) cost seats wish n (nI (wgt S P - 1)) found least weight (nI s) = f_X8_findLeast_200 N (nI K) (nI P) cost seats wish N (nI (wgt S P - 1)) found least' weight (nI (wgt S P - 1)) 0 := by
  have hW6 := wgt_le6 S hS hP
  have hWp := wgt_pos S P
  intro n
  induction n with
  | zero => intro s least h1 h2; omega
  | succ n ih =>
    intro s least hs1 hn hlow
    rw [f_X8_findLeast_6]
    by_cases hsF : wgt S P - 1 < s
    · rw [if_pos (nI_lt hsF (by omega))]
      refine fl_43 hC hK hP hs hS hW hw hwt hN N K least (Nat.le_refl _) (by omega) (fun b h1 h2 => ?_)
      have : b = K := by omega
      subst this
      intro s' hs'
      refine ⟨0, by rw [hlow s' (by omega)]; rfl, ?_⟩
      rw [cF_nil]
      simp only [LV, bw]
      have hb0 : 0 ≤ ((b - b : Nat) : Int) * BB := Int.mul_nonneg (by omega) (by decide)
      omega
    · rw [if_neg (nI_nlt (by omega) (by omega)), ixW, wrL_n _ _ (by omega) (by decide), bd, nI_1]
      refine ih (s + 1) _ (by omega) (by omega) (fun s' hs' => ?_)
      unfold vp_updL
      by_cases hss : s' = s
      · subst hss; rw [if_pos rfl]
      · rw [if_neg (by omega)]; exact hlow s' (by omega)
end LEAST
