/-! LEARN: the class's least covers by first places -/
section LEARN
variable {N K P : Nat} {S : Nat → Nat} {W T : Nat → Nat → Nat} {cs cw cl : Nat → Int32}
def fwR (W : Nat → Nat → Nat) (a : Nat) : Nat → Nat
  | 0 => 7
  | q + 1 => min (fwR W a q) (wo W a (q + 1))
theorem fwR_le (a : Nat) : ∀ n o, o ≤ n → fwR W a n ≤ wo W a o
  | 0, o, h => by
    have : o = 0 := by omega
    subst this; exact Nat.le_refl _
  | n + 1, o, h => by
    rw [fwR]
    rcases Nat.lt_or_ge n o with z | z
    · rw [show o = n + 1 by omega]; exact Nat.min_le_right _ _
    · exact Nat.le_trans (Nat.min_le_left _ _) (fwR_le a n o z)
theorem fwR_at (a : Nat) : ∀ n, ∃ o, o ≤ n ∧ fwR W a n = wo W a o
  | 0 => ⟨0, Nat.le_refl _, rfl⟩
  | n + 1 => by
    obtain ⟨o, h1, h2⟩ := fwR_at a n
    rw [fwR]
    rcases Nat.le_total (fwR W a n) (wo W a (n + 1)) with z | z
    · exact ⟨o, by omega, by rw [Nat.min_eq_left z]; exact h2⟩
    · exact ⟨n + 1, Nat.le_refl _, Nat.min_eq_right z⟩
theorem fwR_7 (a n : Nat) : fwR W a n ≤ 7 := fwR_le a n 0 (Nat.zero_le _)
theorem X0_firstWorth_fw (hP : P ≤ 6) (hW : ∀ a q, W a q ≤ 6) (hw4 : ∀ a q, a < 8 → q < 6 → cw (a * 6 + q) = nI (W a q)) (hl : LikesOk P W cl) {a : Nat} (ha : a < 8) : f_X0_firstWorth N cl cw (nI a) = some (nI (fwR W a P)) := by
  obtain ⟨o, h1, h2, h3, h4⟩ := firstWorth_ok (N := N) hP hW hw4 hl ha
  obtain ⟨o', g1, g2⟩ := fwR_at (W := W) a P
  have : fwR W a P = wo W a o := Nat.le_antisymm (fwR_le a P o h1) (by rw [g2]; exact h4 o' g1)
  rw [h3, this]
/-- the first places of an asker -/
def fB (W : Nat → Nat → Nat) (P a q : Nat) : Bool := decide (0 < W a q) && decide (W a q = fwR W a P)
theorem firstBits_4_ok (hP : P ≤ 6) (hW : ∀ a q, W a q ≤ 6) (hw4 : ∀ a q, a < 8 → q < 6 → cw (a * 6 + q) = nI (W a q)) (hl : LikesOk P W cl) {a : Nat} (ha : a < 8) :
    ∀ (n q : Nat), q ≤ P → P - q < n → f_X5_firstBits_4 N (nI P) cl cw n (nI a) (nI (em (fB W P a) q)) (nI q) = some (nI (em (fB W P a) P)) := by
  intro n
  induction n with
  | zero => intro q h1 h2; omega
  | succ n ih =>
    intro q h1 h2
    rw [f_X5_firstBits_4]
    by_cases hc : P ≤ q
    · have : q = P := by omega
      subst this
      rw [if_pos (nI_le (Nat.le_refl _) (by omega))]
    · have h6 := hW a q
      have h7 := fwR_7 (W := W) a P
      have hs : em (fB W P a) (q + 1) = em (fB W P a) q + (if fB W P a q = true then 2 ^ q else 0) := rfl
      have hrec := ih (q + 1) (by omega) (by omega)
      rw [hs] at hrec
      rw [if_neg (nI_ge (by omega) (by omega)), X0_wishOf_ok hw4 ha (by omega), bd]
      by_cases h0 : W a q = 0
      · rw [if_pos (by rw [h0]; decide), nI_1]
        rw [if_neg (by unfold fB; simp [h0]), Nat.add_zero] at hrec
        exact hrec
      · rw [if_neg (by rw [q_le0 (by omega)]; exact h0), bd, X0_firstWorth_fw hP hW hw4 hl ha, bd]
        by_cases he : W a q = fwR W a P
        · rw [if_pos (by rw [he]), one_sh (by omega), nI_or, em_or, nI_1]
          rw [if_pos (by unfold fB; rw [decide_eq_true (by omega), decide_eq_true he]; rfl)] at hrec
          exact hrec
        · rw [if_neg (nI_ne (by omega) (by omega) he), nI_1]
          rw [if_neg (by unfold fB; rw [decide_eq_false he]; simp), Nat.add_zero] at hrec
          exact hrec
/-- the first places of all from an asker on -/
def ffl (W : Nat → Nat → Nat) (P : Nat) : Nat → Nat → List (Nat → Bool)
  | _, 0 => []
  | a, n + 1 => fB W P a :: ffl W P (a + 1) n
theorem kun_ffl_le (C : Nat → Bool) : ∀ n a, kun P C (ffl W P a n) ≤ n
  | 0, _ => Nat.le_refl _
  | n + 1, a => by
    have := kun_ffl_le C n (a + 1)
    rw [ffl, kun]; split <;> omega
def btb (n : Nat) : Nat → Bool := fun q => decide (bt n q = 1)
def cvN (K P : Nat) (S : Nat → Nat) (W : Nat → Nat → Nat) (n : Nat) : Nat := cov P (ffl W P 0 K) S (btb n)
theorem sub_bits : ∀ a n : Fin 64, ((nI a.1 &&& (nI n.1 ^^^ (-1 : Int32))) = 0) = (∀ q : Fin 6, bt a.1 q.1 = 1 → bt n.1 q.1 = 1) := by
  have h : ∀ a n : Fin 64, decide ((nI a.1 &&& (nI n.1 ^^^ (-1 : Int32))) = 0) = decide (∀ q : Fin 6, bt a.1 q.1 = 1 → bt n.1 q.1 = 1) := by decide +kernel
  intro a n
  have := h a n
  exact propext ⟨fun z => of_decide_eq_true (this ▸ decide_eq_true z), fun z => of_decide_eq_true (this.symm ▸ decide_eq_true z)⟩
theorem kin_bits (hP : P ≤ 6) {a n : Nat} (hn : n < 2 ^ P) : ((nI (em (fB W P a) P) &&& (nI n ^^^ (-1 : Int32))) = 0) = (kin (fB W P a) (btb n) P = true) := by
  have h64 : 2 ^ P ≤ 2 ^ 6 := Nat.pow_le_pow_right (by decide) hP
  have he := em_lt (fB W P a) P
  rw [sub_bits ⟨em (fB W P a) P, by omega⟩ ⟨n, by omega⟩, kin_iff]
  apply propext
  constructor
  · intro h q hq hf
    have := h ⟨q, by omega⟩ (by show bt (em (fB W P a) P) q = 1; rw [bt_em _ P q hq, if_pos hf])
    exact decide_eq_true this
  · intro h q hb
    have hb' : bt (em (fB W P a) P) q.1 = 1 := hb
    rcases Nat.lt_or_ge q.1 P with z | z
    · rw [bt_em _ P q.1 z] at hb'
      by_cases hf : fB W P a q.1 = true
      · exact of_decide_eq_true (h q.1 z hf)
      · rw [if_neg hf] at hb'; omega
    · exfalso
      have : em (fB W P a) P / 2 ^ q.1 = 0 := Nat.div_eq_of_lt (Nat.lt_of_lt_of_le he (Nat.pow_le_pow_right (by decide) z))
      unfold bt at hb'
      rw [this] at hb'
      omega
/-- what is known after the first n covers -/
def LI (K P : Nat) (S : Nat → Nat) (W : Nat → Nat → Nat) (n most tight : Nat) : Prop :=
  (∀ n', n' < n → most ≤ cvN K P S W n') ∧ most ≤ K ∧ ((∃ n', n' < n ∧ cvN K P S W n' = most) ∨ most = K) ∧ tight < 64 ∧ ∀ q, bt tight q = 1 ↔ ∃ n', n' < n ∧ cvN K P S W n' = most ∧ bt n' q = 1
theorem bt_or1 (a b i : Nat) : bt (a ||| b) i = 1 ↔ bt a i = 1 ∨ bt b i = 1 := by
  rw [bt_tb, bt_tb, bt_tb, Nat.testBit_or]
  cases Nat.testBit a i <;> cases Nat.testBit b i <;> simp
theorem bt_0 (i : Nat) : bt 0 i = 0 := by unfold bt; rw [Nat.zero_div]
theorem LI_step (hP : P ≤ 6) {n most tight : Nat} (h : LI K P S W n most tight) (hn : n < 2 ^ P) : (most ≤ cvN K P S W n → LI K P S W (n + 1) most (if cvN K P S W n = most then tight ||| n else tight)) ∧ (¬ most ≤ cvN K P S W n → LI K P S W (n + 1) (cvN K P S W n) n) := by
  obtain ⟨h1, h2, h3, h4, h5⟩ := h
  have h64 : 2 ^ P ≤ 2 ^ 6 := Nat.pow_le_pow_right (by decide) hP
  constructor
  · intro hle
    refine ⟨fun n' hn' => ?_, h2, ?_, ?_, fun q => ?_⟩
    · rcases Nat.lt_or_ge n' n with z | z
      · exact h1 n' z
      · rw [show n' = n by omega]; exact hle
    · rcases h3 with ⟨n', g1, g2⟩ | z
      · exact Or.inl ⟨n', by omega, g2⟩
      · exact Or.inr z
    · split
      · exact Nat.or_lt_two_pow (n := 6) h4 (by omega)
      · exact h4
    · by_cases he : cvN K P S W n = most
      · rw [if_pos he, bt_or1, h5]
        constructor
        · rintro (⟨n', g1, g2⟩ | z)
          · exact ⟨n', by omega, g2⟩
          · exact ⟨n, by omega, he, z⟩
        · rintro ⟨n', g1, g2, g3⟩
          rcases Nat.lt_or_ge n' n with z | z
          · exact Or.inl ⟨n', z, g2, g3⟩
          · rw [show n' = n by omega] at g3; exact Or.inr g3
      · rw [if_neg he, h5]
        constructor
        · rintro ⟨n', g1, g2⟩
          exact ⟨n', by omega, g2⟩
        · rintro ⟨n', g1, g2, g3⟩
          rcases Nat.lt_or_ge n' n with z | z
          · exact ⟨n', z, g2, g3⟩
          · rw [show n' = n by omega] at g2; exact absurd g2 he
  · intro hle
    refine ⟨fun n' hn' => ?_, by omega, Or.inl ⟨n, by omega, rfl⟩, by omega, fun q => ?_⟩
    · rcases Nat.lt_or_ge n' n with z | z
      · have := h1 n' z; omega
      · rw [show n' = n by omega]; exact Nat.le_refl _
    · constructor
      · intro z; exact ⟨n, by omega, rfl, z⟩
      · rintro ⟨n', g1, g2, g3⟩
        rcases Nat.lt_or_ge n' n with z | z
        · have := h1 n' z; omega
        · rw [show n' = n by omega] at g3; exact g3
theorem wc_44 (hN : 40000 ≤ N) (hK : K ≤ 8) (hP : P ≤ 6) {firsts : Nat → Int32} (hf : ∀ a, a < K → firsts a = nI (em (fB W P a) P)) {n most tight : Nat} (hn : n < 2 ^ P) (hcv : cvN K P S W n < 1000) (hI : LI K P S W n most tight) :
    ∀ (d a c : Nat), a ≤ K → K - a < d → c + kun P (btb n) (ffl W P a (K - a)) = cvN K P S W n →
      ∃ most' tight', f_X5_weighCover_44 N (nI K) (nI P) firsts cs d (nI most) (nI tight) (nI n) (nI c) (nI a) = some (nI most', nI tight') ∧ LI K P S W (n + 1) most' tight' := by
  obtain ⟨s1, s2⟩ := LI_step hP hI hn
  have hm := hI.2.1
  intro d
  induction d with
  | zero => intro a c h1 h2; omega
  | succ d ih =>
    intro a c h1 h2 h3
    rw [f_X5_weighCover_44]
    by_cases hc : K ≤ a
    · have : a = K := by omega
      subst this
      rw [Nat.sub_self, ffl, kun, Nat.add_zero] at h3
      rw [if_pos (nI_le (Nat.le_refl _) (by omega))]
      by_cases hle : most ≤ c
      · rw [if_pos (nI_le hle (by omega))]
        have s1 := s1 (by omega)
        by_cases he : c = most
        · rw [if_pos (by rw [he]), nI_or]
          rw [if_pos (by omega)] at s1
          exact ⟨_, _, rfl, s1⟩
        · rw [if_neg (nI_ne (by omega) (by omega) he)]
          rw [if_neg (by omega)] at s1
          exact ⟨_, _, rfl, s1⟩
      · rw [if_neg (nI_ge (by omega) (by omega))]
        have s2 := s2 (by omega)
        rw [← h3] at s2
        exact ⟨_, _, rfl, s2⟩
    · obtain ⟨k, hk⟩ : ∃ k, K - a = k + 1 := ⟨K - a - 1, by omega⟩
      rw [hk, ffl, kun, show k = K - (a + 1) by omega] at h3
      rw [if_neg (nI_ge (by omega) (by omega)), rdI_n _ (by omega) (by decide), bd, hf a (by omega)]
      by_cases hin : kin (fB W P a) (btb n) P = true
      · rw [if_pos hin] at h3
        rw [if_pos (by rw [kin_bits hP hn]; exact hin), nI_1]
        exact ih (a + 1) c (by omega) (by omega) (by omega)
      · rw [if_neg hin] at h3
        rw [if_neg (by rw [kin_bits hP hn]; exact hin), nI_1, nI_1]
        exact ih (a + 1) (c + 1) (by omega) (by omega) (by omega)
theorem ksz_le {σ : Sv} {C : Nat → Bool} (h : ∀ q, σ q ≤ 3) (n : Nat) : ksz σ C n ≤ n * 3 := fb_sm_bound (fun q _ => by
  by_cases e : C q = true
  · simp only [e, if_true]; exact h q
  · simp [e])
theorem cvN_lt (hG : GD K P S W T) (n : Nat) : cvN K P S W n < 1000 := by
  have h1 := ksz_le (C := btb n) hG.S3 P
  have h2 := kun_ffl_le (P := P) (W := W) (btb n) K 0
  have := hG.K8
  have := hG.P6
  unfold cvN cov
  omega
theorem wc_4 (hN : 40000 ≤ N) (hG : GD K P S W T) (hs3 : ∀ q, q < 6 → cs q = nI (S q)) {firsts : Nat → Int32} (hf : ∀ a, a < K → firsts a = nI (em (fB W P a) P)) {n most tight : Nat} (hn : n < 2 ^ P) (hI : LI K P S W n most tight) :
    ∀ (d q : Nat), q ≤ P → P - q < d →
      ∃ most' tight', f_X5_weighCover_4 N (nI K) (nI P) firsts cs d (nI most) (nI tight) (nI n) (nI (ksz S (btb n) q)) (nI q) = some (nI most', nI tight') ∧ LI K P S W (n + 1) most' tight' := by
  have hP := hG.P6
  have hK := hG.K8
  have h64 : 2 ^ P ≤ 2 ^ 6 := Nat.pow_le_pow_right (by decide) hP
  intro d
  induction d with
  | zero => intro q h1 h2; omega
  | succ d ih =>
    intro q h1 h2
    rw [f_X5_weighCover_4]
    by_cases hc : P ≤ q
    · have : q = P := by omega
      subst this
      rw [if_pos (nI_le (Nat.le_refl _) (by omega))]
      exact wc_44 (N := N) (cs := cs) hN hK hP hf hn (cvN_lt hG n) hI N 0 _ (Nat.zero_le _) (by omega) rfl
    · have hrec := ih (q + 1) (by omega) (by omega)
      have hs : ksz S (btb n) (q + 1) = ksz S (btb n) q + (if btb n q = true then S q else 0) := rfl
      rw [hs] at hrec
      have hb2 := bt_lt n q
      rw [if_neg (nI_ge (by omega) (by omega)), bit1 (by omega) (by omega)]
      by_cases hb : bt n q = 1
      · rw [if_pos (by rw [hb]; rfl), rdI_n _ (by omega) (by decide), bd, hs3 q (by omega), nI_add, nI_1]
        rw [if_pos (show btb n q = true from decide_eq_true hb)] at hrec
        exact hrec
      · rw [show bt n q = 0 by omega, if_neg (show ¬ nI 0 = 1 by decide), nI_1]
        rw [if_neg (show ¬ btb n q = true from fun z => hb (of_decide_eq_true z)), Nat.add_zero] at hrec
        exact hrec
theorem learn_48_ok (hN : 40000 ≤ N) (hG : GD K P S W T) (hs3 : ∀ q, q < 6 → cs q = nI (S q)) {firsts : Nat → Int32} (hf : ∀ a, a < K → firsts a = nI (em (fB W P a) P)) :
    ∀ (d n most tight : Nat), n ≤ 2 ^ P → 2 ^ P - n < d → LI K P S W n most tight →
      ∃ most' tight', f_X5_learn_48 N (nI K) (nI P) cl cs cw d (nI most) (nI tight) firsts (nI n) = some (nI most', nI tight', firsts) ∧ LI K P S W (2 ^ P) most' tight' := by
  have hP := hG.P6
  have h64 : 2 ^ P ≤ 2 ^ 6 := Nat.pow_le_pow_right (by decide) hP
  intro d
  induction d with
  | zero => intro n most tight h1 h2; omega
  | succ d ih =>
    intro n most tight h1 h2 h3
    rw [f_X5_learn_48, one_sh (by omega)]
    by_cases hc : 2 ^ P ≤ n
    · rw [if_pos (nI_le hc (by omega))]
      exact ⟨most, tight, rfl, by rw [show 2 ^ P = n by omega]; exact h3⟩
    · rw [if_neg (nI_ge (by omega) (by omega))]
      obtain ⟨most1, tight1, e1, e2⟩ := wc_4 (N := N) hN hG hs3 hf (show n < 2 ^ P by omega) h3 N 0 (Nat.zero_le _) (by omega)
      have e1' : f_X5_weighCover N (nI K) (nI P) firsts cs (nI most) (nI tight) (nI n) = some (nI most1, nI tight1) := e1
      rw [e1', bd, nI_1]
      exact ih (n + 1) most1 tight1 (by omega) (by omega) e2
theorem learn_ok (hN : 40000 ≤ N) (hG : GD K P S W T) (hs3 : ∀ q, q < 6 → cs q = nI (S q)) (hw4 : ∀ a q, a < 8 → q < 6 → cw (a * 6 + q) = nI (W a q)) (hl : LikesOk P W cl) {m0 t0 : Int32} :
    ∀ (d a : Nat) (firsts : Nat → Int32), a ≤ K → K - a < d → (∀ b, b < a → firsts b = nI (em (fB W P b) P)) →
      ∃ most' tight' firsts', f_X5_learn_2 N (nI K) (nI P) cl cs cw d m0 t0 firsts (nI a) = some (nI most', nI tight', firsts') ∧ LI K P S W (2 ^ P) most' tight' ∧ ∀ b, b < K → firsts' b = nI (em (fB W P b) P) := by
  have hP := hG.P6
  have hK := hG.K8
  have h64 : 2 ^ P ≤ 2 ^ 6 := Nat.pow_le_pow_right (by decide) hP
  intro d
  induction d with
  | zero => intro a firsts h1 h2; omega
  | succ d ih =>
    intro a firsts h1 h2 h3
    rw [f_X5_learn_2]
    by_cases hc : K ≤ a
    · have : a = K := by omega
      subst this
      rw [if_pos (nI_le (Nat.le_refl _) (by omega))]
      obtain ⟨most', tight', e1, e2⟩ := learn_48_ok (N := N) (cw := cw) (cl := cl) hN hG hs3 h3 N 0 a 0 (Nat.zero_le _) (by omega) ⟨fun n' hn' => absurd hn' (Nat.not_lt_zero _), Nat.le_refl _, Or.inr rfl, by omega, fun q => by
        rw [bt_0]
        exact ⟨fun z => absurd z (by decide), fun ⟨n', g1, _⟩ => absurd g1 (Nat.not_lt_zero _)⟩⟩
      exact ⟨most', tight', firsts, e1, e2, h3⟩
    · rw [if_neg (nI_ge (by omega) (by omega))]
      have hb : f_X5_firstBits N (nI P) cl cw (nI a) = some (nI (em (fB W P a) P)) := firstBits_4_ok (N := N) hP hG.W6 hw4 hl (by omega) N 0 (Nat.zero_le _) (by omega)
      rw [hb, bd, wrI_n _ _ (by omega) (by decide), bd, nI_1]
      exact ih (a + 1) _ (by omega) (by omega) (fun b hb2 => by
        by_cases e : b = a
        · rw [e, pk_us]
        · rw [pk_un e]; exact h3 b (by omega))
end LEARN
