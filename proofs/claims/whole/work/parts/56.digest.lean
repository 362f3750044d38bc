/-! digest -/
section DIGEST
variable {N K P : Nat} {S : Nat → Nat} {W T : Nat → Nat → Nat}
def hs (f : Nat → Int64 → Int64) : Nat → Nat → Int64 → Int64
  | _, 0, h => h
  | i, n + 1, h => hs f (i + 1) n (f i h)
theorem hs_step {f : Nat → Int64 → Int64} {i n : Nat} (h : i < n) (x : Int64) : hs f i (n - i) x = hs f (i + 1) (n - (i + 1)) (f i x) := by
  rw [show n - i = n - (i + 1) + 1 by omega, hs]
theorem hs_end {f : Nat → Int64 → Int64} {n : Nat} (x : Int64) : hs f n (n - n) x = x := by rw [Nat.sub_self, hs]
def hS (S : Nat → Nat) : Nat → Int64 → Int64 := fun q h => 31 * h + (nI (S q)).toInt64
def hW (W : Nat → Nat → Nat) (a : Nat) : Nat → Int64 → Int64 := fun q h => 31 * h + (nI (W a q)).toInt64
def hWs (P : Nat) (W : Nat → Nat → Nat) : Nat → Int64 → Int64 := fun a h => hs (hW W a) 0 P h
def hT (T : Nat → Nat → Nat) (g : Nat) : Nat → Int64 → Int64 := fun a h => 31 * h + (oI (T g a)).toInt64
def hTs (K : Nat) (T : Nat → Nat → Nat) : Nat → Int64 → Int64 := fun g h => hs (hT T g) 0 K h
def hC (K P : Nat) (S : Nat → Nat) (W : Nat → Nat → Nat) : Nat → Int64 → Int64 := fun k h => 31 * h + (nI (cnt4 K P S W k)).toInt64
theorem oI_l {t : Nat} (h : t ≤ 6) (x : Int64) : x + (nI t).toInt64 - 1 = x + (oI t).toInt64 := by
  have e : (nI t).toInt64 - 1 = (oI t).toInt64 := by
    have : ∀ t : Fin 7, (nI t.val).toInt64 - 1 = (oI t.val).toInt64 := by decide
    exact this ⟨t, by omega⟩
  rw [← e, Int64.sub_eq_add_neg, Int64.sub_eq_add_neg, Int64.add_assoc]

theorem dgo_99 {cs ct cw : Nat → Int32} (hK : K ≤ 8) (hP : P ≤ 6) (e5 : ∀ g a, g < 4 → a < 8 → ct (g * 8 + a) = oI (T g a)) {g : Nat} (hg : g < 4) (k90 : Int64 → Int32 → Option (Int64)) :
    ∀ (n i : Nat) (h : Int64), i ≤ K → K - i < n → f_X0_digestOn_99 N (nI K) (nI P) cs ct cw k90 n h (nI g) (nI i) = k90 (hs (hT T g) i (K - i) h) (nI (g + 1)) := by
  intro n
  induction n with
  | zero => intro i h h1 h2; omega
  | succ n ih =>
    intro i h hi hn
    rw [f_X0_digestOn_99]
    by_cases hc : K ≤ i
    · have : i = K := by omega
      subst this
      simp (disch := omega) only [bd, rdI_n, wrI_n, rdL_n, wrL_n, ix6, ix6', ix7, ix7', ix8, ix8', nI_1, q_le, if_pos, hs_end]
    · simp (disch := omega) only [bd, rdI_n, wrI_n, rdL_n, wrL_n, ix6, ix6', ix7, ix7', ix8, ix8', nI_1, q_le, if_neg hc, X0_toldOf_ok e5 hg (show i < 8 by omega)]
      rw [ih (i + 1) _ (by omega) (by omega), hs_step (show i < K by omega)]
      rfl

theorem dgo_50 {cs ct cw : Nat → Int32} (hK : K ≤ 8) (hP : P ≤ 6) (e4 : ∀ a q, a < 8 → q < 6 → cw (a * 6 + q) = nI (W a q)) {a : Nat} (ha : a < 8) (k38 : Int64 → Int32 → Option (Int64)) :
    ∀ (n i : Nat) (h : Int64), i ≤ P → P - i < n → f_X0_digestOn_50 N (nI K) (nI P) cs ct cw k38 n h (nI a) (nI i) = k38 (hs (hW W a) i (P - i) h) (nI (a + 1)) := by
  intro n
  induction n with
  | zero => intro i h h1 h2; omega
  | succ n ih =>
    intro i h hi hn
    rw [f_X0_digestOn_50]
    by_cases hc : P ≤ i
    · have : i = P := by omega
      subst this
      simp (disch := omega) only [bd, rdI_n, wrI_n, rdL_n, wrL_n, ix6, ix6', ix7, ix7', ix8, ix8', nI_1, q_le, if_pos, hs_end]
    · simp (disch := omega) only [bd, rdI_n, wrI_n, rdL_n, wrL_n, ix6, ix6', ix7, ix7', ix8, ix8', nI_1, q_le, if_neg hc, X0_wishOf_ok e4 ha (show i < 6 by omega)]
      rw [ih (i + 1) _ (by omega) (by omega), hs_step (show i < P by omega)]
      rfl

theorem dg8_124 {fa fb : Int64} {cs mt cw : Nat → Int32} (hK : K ≤ 8) (hP : P ≤ 6) (m5 : ∀ g a, g < 4 → a < 8 → mt (g * 8 + a) = nI (T g a)) (h6 : ∀ g a, T g a ≤ 6) {g : Nat} (hg : g < 4) (k116 : Int64 → Int32 → Option (Int64)) :
    ∀ (n i : Nat) (h : Int64), i ≤ K → K - i < n → f_X8_digest_124 N (nI K) (nI P) fa fb cs mt cw k116 n h (nI g) (nI i) = k116 (hs (hT T g) i (K - i) h) (nI (g + 1)) := by
  intro n
  induction n with
  | zero => intro i h h1 h2; omega
  | succ n ih =>
    intro i h hi hn
    rw [f_X8_digest_124]
    by_cases hc : K ≤ i
    · have : i = K := by omega
      subst this
      simp (disch := omega) only [bd, rdI_n, wrI_n, rdL_n, wrL_n, ix6, ix6', ix7, ix7', ix8, ix8', nI_1, q_le, if_pos, hs_end]
    · simp (disch := omega) only [bd, rdI_n, wrI_n, rdL_n, wrL_n, ix6, ix6', ix7, ix7', ix8, ix8', nI_1, q_le, if_neg hc, m5 g i hg (show i < 8 by omega), oI_l (h6 g i)]
      rw [ih (i + 1) _ (by omega) (by omega), hs_step (show i < K by omega)]
      rfl

theorem dg8_73 {fa fb : Int64} {cs mt cw : Nat → Int32} (hK : K ≤ 8) (hP : P ≤ 6) (e4 : ∀ a q, a < 8 → q < 6 → cw (a * 6 + q) = nI (W a q)) {a : Nat} (ha : a < 8) (k62 : Int64 → Int32 → Option (Int64)) :
    ∀ (n i : Nat) (h : Int64), i ≤ P → P - i < n → f_X8_digest_73 N (nI K) (nI P) fa fb cs mt cw k62 n h (nI a) (nI i) = k62 (hs (hW W a) i (P - i) h) (nI (a + 1)) := by
  intro n
  induction n with
  | zero => intro i h h1 h2; omega
  | succ n ih =>
    intro i h hi hn
    rw [f_X8_digest_73]
    by_cases hc : P ≤ i
    · have : i = P := by omega
      subst this
      simp (disch := omega) only [bd, rdI_n, wrI_n, rdL_n, wrL_n, ix6, ix6', ix7, ix7', ix8, ix8', nI_1, q_le, if_pos, hs_end]
    · simp (disch := omega) only [bd, rdI_n, wrI_n, rdL_n, wrL_n, ix6, ix6', ix7, ix7', ix8, ix8', nI_1, q_le, if_neg hc, e4 a i ha (show i < 6 by omega)]
      rw [ih (i + 1) _ (by omega) (by omega), hs_step (show i < P by omega)]
      rfl

theorem dgo_90 (hN : 40000 ≤ N) {cs ct cw : Nat → Int32} (hK : K ≤ 8) (hP : P ≤ 6) (e5 : ∀ g a, g < 4 → a < 8 → ct (g * 8 + a) = oI (T g a)) :
    ∀ (n i : Nat) (h : Int64), i ≤ 4 → 4 - i < n → f_X0_digestOn_90 N (nI K) (nI P) cs ct cw n h (nI i) = some (hs (hTs K T) i (4 - i) h) := by
  intro n
  induction n with
  | zero => intro i h h1 h2; omega
  | succ n ih =>
    intro i h hi hn
    rw [f_X0_digestOn_90]
    by_cases hc : 4 ≤ i
    · have : i = 4 := by omega
      subst this
      simp (disch := omega) only [bd, rdI_n, wrI_n, rdL_n, wrL_n, ix6, ix6', ix7, ix7', ix8, ix8', nI_1, q_4le, if_pos, hs_end]
      skip
    · simp (disch := omega) only [bd, rdI_n, wrI_n, rdL_n, wrL_n, ix6, ix6', ix7, ix7', ix8, ix8', nI_1, q_4le, if_neg hc]
      rw [show (0 : Int32) = nI 0 from rfl, dgo_99 hK hP e5 (show i < 4 by omega) _ N 0 h (Nat.zero_le _) (by omega), ih (i + 1) _ (by omega) (by omega), hs_step (show i < 4 by omega)]
      rfl

theorem dgo_38 (hN : 40000 ≤ N) {cs ct cw : Nat → Int32} (hK : K ≤ 8) (hP : P ≤ 6) (e4 : ∀ a q, a < 8 → q < 6 → cw (a * 6 + q) = nI (W a q)) (e5 : ∀ g a, g < 4 → a < 8 → ct (g * 8 + a) = oI (T g a)) :
    ∀ (n i : Nat) (h : Int64), i ≤ K → K - i < n → f_X0_digestOn_38 N (nI K) (nI P) cs ct cw n h (nI i) = some (hs (hTs K T) 0 4 (hs (hWs P W) i (K - i) h)) := by
  intro n
  induction n with
  | zero => intro i h h1 h2; omega
  | succ n ih =>
    intro i h hi hn
    rw [f_X0_digestOn_38]
    by_cases hc : K ≤ i
    · have : i = K := by omega
      subst this
      simp (disch := omega) only [bd, rdI_n, wrI_n, rdL_n, wrL_n, ix6, ix6', ix7, ix7', ix8, ix8', nI_1, q_le, if_pos, hs_end]
      exact dgo_90 hN hK hP e5 N 0 _ (by omega) (by omega)
    · simp (disch := omega) only [bd, rdI_n, wrI_n, rdL_n, wrL_n, ix6, ix6', ix7, ix7', ix8, ix8', nI_1, q_le, if_neg hc]
      rw [show (0 : Int32) = nI 0 from rfl, dgo_50 hK hP e4 (show i < 8 by omega) _ N 0 h (Nat.zero_le _) (by omega), ih (i + 1) _ (by omega) (by omega), hs_step (show i < K by omega)]
      rfl

theorem dgo_5 (hN : 40000 ≤ N) {cs ct cw : Nat → Int32} (hK : K ≤ 8) (hP : P ≤ 6) (e3 : ∀ q, q < 6 → cs q = nI (S q)) (e4 : ∀ a q, a < 8 → q < 6 → cw (a * 6 + q) = nI (W a q)) (e5 : ∀ g a, g < 4 → a < 8 → ct (g * 8 + a) = oI (T g a)) :
    ∀ (n i : Nat) (h : Int64), i ≤ P → P - i < n → f_X0_digestOn_5 N (nI K) (nI P) cs ct cw n h (nI i) = some (hs (hTs K T) 0 4 (hs (hWs P W) 0 K (hs (hS S) i (P - i) h))) := by
  intro n
  induction n with
  | zero => intro i h h1 h2; omega
  | succ n ih =>
    intro i h hi hn
    rw [f_X0_digestOn_5]
    by_cases hc : P ≤ i
    · have : i = P := by omega
      subst this
      simp (disch := omega) only [bd, rdI_n, wrI_n, rdL_n, wrL_n, ix6, ix6', ix7, ix7', ix8, ix8', nI_1, q_le, if_pos, hs_end]
      exact dgo_38 hN hK hP e4 e5 N 0 _ (by omega) (by omega)
    · simp (disch := omega) only [bd, rdI_n, wrI_n, rdL_n, wrL_n, ix6, ix6', ix7, ix7', ix8, ix8', nI_1, q_le, if_neg hc, e3 i (show i < 6 by omega)]
      rw [ih (i + 1) _ (by omega) (by omega), hs_step (show i < P by omega)]
      rfl

theorem dg8_116 (hN : 40000 ≤ N) {fa fb : Int64} {cs mt cw : Nat → Int32} (hK : K ≤ 8) (hP : P ≤ 6) (m5 : ∀ g a, g < 4 → a < 8 → mt (g * 8 + a) = nI (T g a)) (h6 : ∀ g a, T g a ≤ 6) :
    ∀ (n i : Nat) (h : Int64), i ≤ 4 → 4 - i < n → f_X8_digest_116 N (nI K) (nI P) fa fb cs mt cw n h (nI i) = some (31 * (31 * hs (hTs K T) i (4 - i) h + fa) + fb) := by
  intro n
  induction n with
  | zero => intro i h h1 h2; omega
  | succ n ih =>
    intro i h hi hn
    rw [f_X8_digest_116]
    by_cases hc : 4 ≤ i
    · have : i = 4 := by omega
      subst this
      simp (disch := omega) only [bd, rdI_n, wrI_n, rdL_n, wrL_n, ix6, ix6', ix7, ix7', ix8, ix8', nI_1, q_4le, if_pos, hs_end]
      skip
    · simp (disch := omega) only [bd, rdI_n, wrI_n, rdL_n, wrL_n, ix6, ix6', ix7, ix7', ix8, ix8', nI_1, q_4le, if_neg hc]
      rw [show (0 : Int32) = nI 0 from rfl, dg8_124 hK hP m5 h6 (show i < 4 by omega) _ N 0 h (Nat.zero_le _) (by omega), ih (i + 1) _ (by omega) (by omega), hs_step (show i < 4 by omega)]
      rfl

theorem dg8_62 (hN : 40000 ≤ N) {fa fb : Int64} {cs mt cw : Nat → Int32} (hK : K ≤ 8) (hP : P ≤ 6) (e4 : ∀ a q, a < 8 → q < 6 → cw (a * 6 + q) = nI (W a q)) (m5 : ∀ g a, g < 4 → a < 8 → mt (g * 8 + a) = nI (T g a)) (h6 : ∀ g a, T g a ≤ 6) :
    ∀ (n i : Nat) (h : Int64), i ≤ K → K - i < n → f_X8_digest_62 N (nI K) (nI P) fa fb cs mt cw n h (nI i) = some (31 * (31 * hs (hTs K T) 0 4 (hs (hWs P W) i (K - i) h) + fa) + fb) := by
  intro n
  induction n with
  | zero => intro i h h1 h2; omega
  | succ n ih =>
    intro i h hi hn
    rw [f_X8_digest_62]
    by_cases hc : K ≤ i
    · have : i = K := by omega
      subst this
      simp (disch := omega) only [bd, rdI_n, wrI_n, rdL_n, wrL_n, ix6, ix6', ix7, ix7', ix8, ix8', nI_1, q_le, if_pos, hs_end]
      exact dg8_116 hN hK hP m5 h6 N 0 _ (by omega) (by omega)
    · simp (disch := omega) only [bd, rdI_n, wrI_n, rdL_n, wrL_n, ix6, ix6', ix7, ix7', ix8, ix8', nI_1, q_le, if_neg hc]
      rw [show (0 : Int32) = nI 0 from rfl, dg8_73 hK hP e4 (show i < 8 by omega) _ N 0 h (Nat.zero_le _) (by omega), ih (i + 1) _ (by omega) (by omega), hs_step (show i < K by omega)]
      rfl

theorem dg8_32 (hN : 40000 ≤ N) {fa fb : Int64} {cs mt cw : Nat → Int32} (hK : K ≤ 8) (hP : P ≤ 6) (e3 : ∀ q, q < 6 → cs q = nI (S q)) (e4 : ∀ a q, a < 8 → q < 6 → cw (a * 6 + q) = nI (W a q)) (m5 : ∀ g a, g < 4 → a < 8 → mt (g * 8 + a) = nI (T g a)) (h6 : ∀ g a, T g a ≤ 6) :
    ∀ (n i : Nat) (h : Int64), i ≤ P → P - i < n → f_X8_digest_32 N (nI K) (nI P) fa fb cs mt cw n h (nI i) = some (31 * (31 * hs (hTs K T) 0 4 (hs (hWs P W) 0 K (hs (hS S) i (P - i) h)) + fa) + fb) := by
  intro n
  induction n with
  | zero => intro i h h1 h2; omega
  | succ n ih =>
    intro i h hi hn
    rw [f_X8_digest_32]
    by_cases hc : P ≤ i
    · have : i = P := by omega
      subst this
      simp (disch := omega) only [bd, rdI_n, wrI_n, rdL_n, wrL_n, ix6, ix6', ix7, ix7', ix8, ix8', nI_1, q_le, if_pos, hs_end]
      exact dg8_62 hN hK hP e4 m5 h6 N 0 _ (by omega) (by omega)
    · simp (disch := omega) only [bd, rdI_n, wrI_n, rdL_n, wrL_n, ix6, ix6', ix7, ix7', ix8, ix8', nI_1, q_le, if_neg hc, e3 i (show i < 6 by omega)]
      rw [ih (i + 1) _ (by omega) (by omega), hs_step (show i < P by omega)]
      rfl

theorem dg8_6 (hN : 40000 ≤ N) (hG : GD K P S W T) {fa fb : Int64} {cs mt cw : Nat → Int32} (e3 : ∀ q, q < 6 → cs q = nI (S q)) (e4 : ∀ a q, a < 8 → q < 6 → cw (a * 6 + q) = nI (W a q)) (m5 : ∀ g a, g < 4 → a < 8 → mt (g * 8 + a) = nI (T g a)) (h6 : ∀ g a, T g a ≤ 6) :
    ∀ (n i : Nat) (h : Int64), i ≤ 4 → 4 - i < n → f_X8_digest_6 N (nI K) (nI P) fa fb cs mt cw n h (nI i) = some (31 * (31 * hs (hTs K T) 0 4 (hs (hWs P W) 0 K (hs (hS S) 0 P (hs (hC K P S W) i (4 - i) h))) + fa) + fb) := by
  intro n
  induction n with
  | zero => intro i h h1 h2; omega
  | succ n ih =>
    intro i h hi hn
    rw [f_X8_digest_6]
    by_cases hc : 4 ≤ i
    · have : i = 4 := by omega
      subst this
      simp (disch := omega) only [bd, rdI_n, wrI_n, rdL_n, wrL_n, ix6, ix6', ix7, ix7', ix8, ix8', nI_1, q_4le, if_pos, hs_end]
      exact dg8_32 hN hG.K8 hG.P6 e3 e4 m5 h6 N 0 _ (by omega) (by have := hG.P6; omega)
    · simp (disch := omega) only [bd, rdI_n, wrI_n, rdL_n, wrL_n, ix6, ix6', ix7, ix7', ix8, ix8', nI_1, q_4le, if_neg hc, X8_countOf_ok hG hN e3 e4 (show i < 4 by omega)]
      rw [ih (i + 1) _ (by omega) (by omega), hs_step (show i < 4 by omega)]
      rfl

theorem q_3lt {a : Nat} (ha : a < 2 ^ 31) : (3 < nI a) = (3 < a) := q_lt (a := 3) (by decide) ha
theorem dg7_6 (hN : 40000 ≤ N) (hG : GD K P S W T) {fa fb : Int64} {cs ct cw : Nat → Int32} (e3 : ∀ q, q < 6 → cs q = nI (S q)) (e4 : ∀ a q, a < 8 → q < 6 → cw (a * 6 + q) = nI (W a q)) (e5 : ∀ g a, g < 4 → a < 8 → ct (g * 8 + a) = oI (T g a)) :
    ∀ (n i : Nat) (h : Int64), i ≤ 4 → 4 - i < n → f_X7_digest_6 N fa fb (nI K) (nI P) cs ct cw n h (nI i) = some (31 * (31 * hs (hTs K T) 0 4 (hs (hWs P W) 0 K (hs (hS S) 0 P (hs (hC K P S W) i (4 - i) h))) + fa) + fb) := by
  have hK := hG.K8
  have hP := hG.P6
  intro n
  induction n with
  | zero => intro i h h1 h2; omega
  | succ n ih =>
    intro i h hi hn
    rw [f_X7_digest_6]
    by_cases hc : 3 < i
    · have : i = 4 := by omega
      subst this
      have e : f_X0_digestOn N (nI K) (nI P) cs ct cw h = some (hs (hTs K T) 0 4 (hs (hWs P W) 0 K (hs (hS S) 0 P h))) := dgo_5 hN hK hP e3 e4 e5 N 0 h (Nat.zero_le _) (by omega)
      simp (disch := omega) only [bd, rdI_n, wrI_n, rdL_n, wrL_n, ix6, ix6', ix7, ix7', ix8, ix8', nI_1, q_3lt, if_pos, hs_end, e]
    · simp (disch := omega) only [bd, rdI_n, wrI_n, rdL_n, wrL_n, ix6, ix6', ix7, ix7', ix8, ix8', nI_1, q_3lt, if_neg hc, X7_count_ok hG hN e3 e4 (show i < 4 by omega)]
      rw [ih (i + 1) _ (by omega) (by omega), hs_step (show i < 4 by omega)]
      rfl
theorem call_digest (hG : GD K P S W T) (hN : 40000 ≤ N) {fa fb : Int64} : ∀ {ca cp ma mp : Int32} {cs cl ct cw ms mw mt : Nat → Int32}, SB K P S W T ca cp cs cl ct cw → RepM K P S W T ma mp ms mw mt →
    ∃ r, f_X7_digest N fa fb ca cp cs ct cw = some r ∧ f_X8_digest N ma mp fa fb ms mt mw = some r := by
  intro ca cp ma mp cs cl ct cw ms mw mt hB hM
  obtain ⟨⟨e1, e2, e3, e4, e5⟩, hl⟩ := hB
  obtain ⟨m1, m2, m3, m4, m5⟩ := hM
  subst e1; subst m1; subst e2; subst m2
  have a1 := dg7_6 (fa := fa) (fb := fb) hN hG e3 e4 e5 N 0 331 (by omega) (by omega)
  have a2 := dg8_6 (fa := fa) (fb := fb) hN hG m3 m4 m5 hG.T6 N 0 331 (by omega) (by omega)
  exact ⟨_, a1, a2⟩
end DIGEST
