/-! RATIO: the reference's best ratio -/
section RATIO
variable {N K P : Nat} {S : Nat → Nat} {W T : Nat → Nat → Nat} {m : Nat → Nat} {ms mt mw weight pref : Nat → Int32}
theorem q_ole {w v : Nat} (hw : w < 2 ^ 30) (hv : v < 2 ^ 30) : (oI w ≤ nI v) = (w ≤ v + 1) := by
  apply propext
  rw [Int32.le_iff_toInt_le, oI_toInt (by omega), nI_toInt (by omega)]
  omega
/-- best among the numbers of fallers below Y -/
def BR (K P : Nat) (S : Nat → Nat) (W : Nat → Nat → Nat) (m : Nat → Nat) (Y A B : Nat) : Prop :=
  (∀ x y, y < Y → AtG K P S W m x y → x * B ≤ A * y) ∧ ((A = 0 ∧ B = 1) ∨ (A = 1 ∧ B = 0 ∧ ∃ x, 0 < x ∧ AtG K P S W m x 0) ∨ (0 < A ∧ 0 < B ∧ AtG K P S W m A B))
theorem BR_le (hK : K ≤ 8) {Y A B : Nat} (h : BR K P S W m Y A B) : A ≤ 8 ∧ B ≤ 8 := by
  rcases h.2 with z | z | z
  · omega
  · omega
  · have := AtG_le z.2.2; omega
theorem BR_skip {Y A B v : Nat} (h : BR K P S W m Y A B) (hv : ∀ x, AtG K P S W m x Y → x ≤ v) (hle : v * B ≤ A * Y) : BR K P S W m (Y + 1) A B := by
  refine ⟨fun x y hy hx => ?_, h.2⟩
  rcases Nat.lt_or_ge y Y with z | z
  · exact h.1 x y z hx
  · have e : y = Y := by omega
    rw [e] at hx ⊢
    exact Nat.le_trans (Nat.mul_le_mul_right B (hv x hx)) hle
theorem BR_take {Y A B v : Nat} (h : BR K P S W m Y A B) (hv : ∀ x, AtG K P S W m x Y → x ≤ v) (hat : AtG K P S W m v Y) (h0 : 0 < v) (hlt : A * Y < v * B) (hY : 0 < Y) : BR K P S W m (Y + 1) v Y := by
  have hB : 0 < B := by
    rcases Nat.eq_zero_or_pos B with z | z
    · rw [z, Nat.mul_zero] at hlt; omega
    · exact z
  refine ⟨fun x y hy hx => ?_, Or.inr (Or.inr ⟨h0, hY, hat⟩)⟩
  rcases Nat.lt_or_ge y Y with z | z
  · have h1 := h.1 x y z hx
    have h2 : x * Y * B ≤ v * y * B := by
      calc x * Y * B = x * B * Y := by rw [Nat.mul_right_comm]
        _ ≤ A * y * Y := Nat.mul_le_mul_right Y h1
        _ = A * Y * y := by rw [Nat.mul_right_comm]
        _ ≤ v * B * y := Nat.mul_le_mul_right y (Nat.le_of_lt hlt)
        _ = v * y * B := by rw [Nat.mul_right_comm]
    exact Nat.le_of_mul_le_mul_right h2 hB
  · have e : y = Y := by omega
    rw [e] at hx ⊢
    exact Nat.mul_le_mul_right Y (hv x hx)
theorem fa_38 (hK : K ≤ 8) (hP : P ≤ 6) (hS : ∀ q, q < 6 → S q ≤ 3) (hp : PT P S W m K pref) {Y A B : Nat} (hY : Y ≤ K) (hb : BR K P S W m Y A B) {c_above : Int64} {c_below : Int64} {c_next : (Nat → Int32)} (k23 : Int64 → Int64 → Int32 → (Nat → Int32) → (Nat → Int32) → (Nat → Int32) → Int64 → Int64 → Int32 → Option (Int32 × Int64 × Int64 × Int32 × (Nat → Int32) × (Nat → Int32) × (Nat → Int32))) :
    ∀ (n s v : Nat), s ≤ wgt S P → wgt S P - s < n → v ≤ 8 → (∀ s' x, s' < s → RC P S W m K Y s' x → x ≤ v) → (v = 0 ∨ ∃ s', RC P S W m K Y s' v) →
      ∃ A' B', BR K P S W m (Y + 1) A' B' ∧ f_X8_factor_38 N (nI K) (nI P) ms mt mw k23 n c_above c_below (nI (wgt S P - 1)) c_next pref weight (lN A) (lN B) (nI Y) (nI v) (nI s) = k23 c_above c_below (nI (wgt S P - 1)) c_next pref weight (lN A') (lN B') (nI (Y + 1)) := by
  have hW4 := wgt_le6 S hS hP
  have hW0 := wgt_pos S P
  obtain ⟨hA8, hB8⟩ := BR_le hK hb
  intro n
  induction n with
  | zero => intro s v h1 h2; omega
  | succ n ih =>
    intro s v h1 h2 h3 h4 h5
    rw [f_X8_factor_38]
    by_cases hc : wgt S P - 1 < s
    · have hmax : ∀ x, AtG K P S W m x Y → x ≤ v := by
        intro x hx
        obtain ⟨s', hs'⟩ := RC_at.mp hx
        exact h4 s' x (by have := (RC_le _ _ _ _ hs').2.2; omega) hs'
      rw [if_pos (nI_lt hc (by omega)), nI_1]
      by_cases hv : v = 0
      · rw [if_pos (by rw [hv]; decide)]
        exact ⟨A, B, BR_skip hb hmax (by rw [hv, Nat.zero_mul]; exact Nat.zero_le _), rfl⟩
      · have hat : AtG K P S W m v Y := by
          rcases h5 with z | z
          · exact absurd z hv
          · exact RC_at.mpr z
        have m1 : v * B ≤ 8 * 8 := Nat.mul_le_mul h3 hB8
        have m2 : A * Y ≤ 8 * 8 := Nat.mul_le_mul hA8 (by omega)
        rw [if_neg (by rw [q_le0 (by omega)]; exact hv), nI_l (by omega), nI_l (by omega), lN_mul, lN_mul]
        by_cases hle : v * B ≤ A * Y
        · rw [if_pos ((lN_le (by omega) (by omega)).mpr hle)]
          exact ⟨A, B, BR_skip hb hmax hle, rfl⟩
        · rw [if_neg (fun z => hle ((lN_le (by omega) (by omega)).mp z))]
          by_cases hY0 : Y = 0
          · rw [if_pos (by rw [hY0]; rfl)]
            subst hY0
            exact ⟨1, 0, ⟨fun x y hy hx => by rw [Nat.mul_zero]; exact Nat.zero_le _, Or.inr (Or.inl ⟨rfl, rfl, v, by omega, hat⟩)⟩, rfl⟩
          · rw [if_neg (nI_ne0 (by omega) (by omega))]
            exact ⟨v, Y, BR_take hb hmax hat (by omega) (by omega) (by omega), rfl⟩
    · obtain ⟨w, w9, w1, w2⟩ := hp Y s (by omega) (by omega)
      rw [if_neg (nI_nlt (by omega) (by omega)), show (4096 : Int32) * nI Y + nI s = nI (4096 * Y + s) by rw [show (4096 : Int32) = nI 4096 from rfl, nI_mul, nI_add], rdI_n _ (by omega) (by decide), bd, w1, nI_1]
      by_cases hle : w ≤ v + 1
      · rw [if_pos (by rw [q_ole (by omega) (by omega)]; exact hle)]
        exact ih (s + 1) v (by omega) (by omega) h3 (fun s' x q1 q2 => by
          rcases Nat.lt_or_ge s' s with z | z
          · exact h4 s' x z q2
          · have := w2.1 x (by rw [← show s' = s by omega]; exact q2)
            omega) h5
      · rw [if_neg (by rw [q_ole (by omega) (by omega)]; exact hle), bd]
        obtain ⟨x0, rfl⟩ : ∃ x0, w = x0 + 1 := ⟨w - 1, by omega⟩
        rw [oI_s]
        have hx0 : RC P S W m K Y s x0 := by
          rcases w2.2 with z | z
          · omega
          · exact z
        exact ih (s + 1) x0 (by omega) (by omega) (by omega) (fun s' x q1 q2 => by
          rcases Nat.lt_or_ge s' s with z | z
          · have := h4 s' x z q2; omega
          · have := w2.1 x (by rw [← show s' = s by omega]; exact q2)
            omega) (Or.inr ⟨s, hx0⟩)
theorem fa_23 (hN : 40000 ≤ N) (hK : K ≤ 8) (hP : P ≤ 6) (hS : ∀ q, q < 6 → S q ≤ 3) (hp : PT P S W m K pref) {c_above : Int64} {c_below : Int64} {c_next : (Nat → Int32)} :
    ∀ (n Y A B : Nat), Y ≤ K + 1 → K + 1 - Y < n → BR K P S W m Y A B →
      ∃ A' B', BestR K P S W m A' B' ∧ f_X8_factor_23 N (nI K) (nI P) ms mt mw n c_above c_below (nI (wgt S P - 1)) c_next pref weight (lN A) (lN B) (nI Y) = some (1, lN (A' / Nat.gcd A' B'), lN (B' / Nat.gcd A' B'), nI (wgt S P - 1), c_next, pref, weight) := by
  have hW4 := wgt_le6 S hS hP
  intro n
  induction n with
  | zero => intro Y A B h1 h2; omega
  | succ n ih =>
    intro Y A B h1 h2 h3
    rw [f_X8_factor_23]
    by_cases hc : K < Y
    · obtain ⟨hA8, hB8⟩ := BR_le hK h3
      have hpos : 0 < A + B := by
        rcases h3.2 with z | z | z
        · omega
        · omega
        · omega
      rw [if_pos (nI_lt hc (by omega)), tells_ok hN (by omega) (by omega) hpos, bd]
      exact ⟨A, B, ⟨fun x y hxy => h3.1 x y (by have := AtG_le hxy; omega) hxy, h3.2⟩, rfl⟩
    · rw [if_neg (nI_nlt (by omega) (by omega))]
      obtain ⟨A1, B1, e1, e2⟩ := fa_38 (N := N) (ms := ms) (mt := mt) (mw := mw) (weight := weight) (c_above := c_above) (c_below := c_below) (c_next := c_next) hK hP hS hp (show Y ≤ K by omega) h3 (f_X8_factor_23 N (nI K) (nI P) ms mt mw n) N 0 0 (by omega) (by omega) (by omega) (fun s' x q1 q2 => absurd q1 (Nat.not_lt_zero _)) (Or.inl rfl)
      obtain ⟨A2, B2, e3, e4⟩ := ih (Y + 1) A1 B1 (by omega) (by omega) e1
      exact ⟨A2, B2, e3, e2.trans e4⟩
theorem X8_factor_yes (hN : 40000 ≤ N) (hG : GD K P S W T) (hs : ∀ q, q < 6 → ms q = nI (S q)) (hw : ∀ a q, a < 8 → q < 6 → mw (a * 6 + q) = nI (W a q)) (m5 : ∀ g a, g < 4 → a < 8 → mt (g * 8 + a) = nI (T g a)) {g : Nat} (hg : g < 4) {c_above : Int64} {c_below : Int64} {c_full : Int32} {c_next : Nat → Int32} {c_prefer : Nat → Int32} {c_weight : Nat → Int32} :
    ∃ A B full' next' pref' weight', BestR K P S W (T g) A B ∧ f_X8_factor N (nI K) (nI P) ms mt mw c_above c_below c_full c_next c_prefer c_weight (nI g) = some (1, lN (A / Nat.gcd A B), lN (B / Nat.gcd A B), full', next', pref', weight') := by
  unfold f_X8_factor
  rw [X8_isTold_ok, bd, if_pos (isM_nI hg (by decide)), if_neg one_ne]
  obtain ⟨next', pref', w', e1, e2⟩ := findPrefer_ok (N := N) (ms := ms) (mt := mt) (mw := mw) hN hG hs hw m5 hg c_full c_next c_prefer c_weight
  rw [e1, bd]
  obtain ⟨A, B, e3, e4⟩ := fa_23 (N := N) (ms := ms) (mt := mt) (mw := mw) (weight := w') (c_above := c_above) (c_below := c_below) (c_next := next') hN hG.K8 hG.P6 (fun q _ => hG.S3 q) e2 N 0 0 1 (by omega) (by have := hG.K8; omega) ⟨fun x y hy => absurd hy (Nat.not_lt_zero _), Or.inl ⟨rfl, rfl⟩⟩
  exact ⟨A, B, _, _, _, _, e3, e4⟩
end RATIO
