/-! class Search: seats as bits, isSolved, clips -/
section SEARCH1
variable {N K P : Nat} {S : Nat → Nat} {W T : Nat → Nat → Nat}
theorem X0_seatBits_4_ok (hP : P ≤ 6) (hS : ∀ q, S q ≤ 3) {cs : Nat → Int32} (e3 : ∀ q, q < 6 → cs q = nI (S q)) : ∀ (n q : Nat), q ≤ P → P - q < n → f_X0_seatBits_4 N (nI P) cs n (nI (e4 S q)) (nI q) = some (nI (e4 S P)) := by
  intro n
  induction n with
  | zero => intro q h1 h2; omega
  | succ n ih =>
    intro q hq hn
    rw [f_X0_seatBits_4]
    by_cases h : P ≤ q
    · have : q = P := by omega
      subst this
      simp (disch := omega) only [bd, rdI_n, wrI_n, rdL_n, wrL_n, ix6, ix6', ix7, ix7', ix8, ix8', nI_1, q_le, if_pos]
    · have h3 := hS q
      have h4 := p4_6 (q := q) (by omega)
      have hm : S q * 4 ^ q ≤ 3 * 4 ^ q := Nat.mul_le_mul_right _ h3
      simp (disch := omega) only [bd, rdI_n, wrI_n, rdL_n, wrL_n, ix6, ix6', ix7, ix7', ix8, ix8', nI_1, q_le, if_neg h, e3 q (show q < 6 by omega), sh_4 (x := S q) (show q < 16 by omega) (show S q * 4 ^ q < 2 ^ 32 by omega), nI_or, e4_or (fun q => Nat.lt_of_le_of_lt (hS q) (by decide)) q]
      exact ih (q + 1) (by omega) (by omega)
theorem X0_seatBits_ok (hN : 40000 ≤ N) (hP : P ≤ 6) (hS : ∀ q, S q ≤ 3) {cs : Nat → Int32} (e3 : ∀ q, q < 6 → cs q = nI (S q)) : f_X0_seatBits N (nI P) cs = some (nI (e4 S P)) :=
  X0_seatBits_4_ok hP hS e3 N 0 (Nat.zero_le _) (by omega)
/-! isSolved -/
def RUL : Int32 := -2000000000
def gRow (gains : Nat → Int32) (a : Nat) : Row := fun o => if gains (a * 7 + o) = RUL then none else some (gains (a * 7 + o)).toInt
def gF (K : Nat) (gains : Nat → Int32) (a : Nat) : List Row := rf (gRow gains) a (K - a)
theorem gF_cons {gains : Nat → Int32} {a : Nat} (h : a < K) : gF K gains a = gRow gains a :: gF K gains (a + 1) := by
  unfold gF
  rw [show K - a = K - (a + 1) + 1 from by omega, rf]
theorem gF_nil {gains : Nat → Int32} : gF K gains K = [] := by unfold gF; rw [Nat.sub_self]; rfl
theorem rf_cong {r r' : Nat → Row} : ∀ (n a : Nat), (∀ i, a ≤ i → i < a + n → r i = r' i) → rf r a n = rf r' a n
  | 0, _, _ => rfl
  | n + 1, a, h => by rw [rf, rf, h a (Nat.le_refl _) (by omega), rf_cong n (a + 1) (fun i h1 h2 => h i (by omega) (by omega))]
theorem bw_cong (P : Nat) (r r' : Nat → Row) : ∀ (n a : Nat) (σ : Sv), (∀ i o, a ≤ i → i < a + n → o ≤ P → r i o = r' i o) → bw P (rf r a n) σ = bw P (rf r' a n) σ
  | 0, _, _, _ => rfl
  | n + 1, a, σ, e => by
    rw [rf, rf, bw_cons, bw_cons]
    refine fo_congr fun o ho => ?_
    unfold cv
    rw [e a o (Nat.le_refl _) (by omega) (by omega)]
    cases r' a o with
    | none => rfl
    | some γ =>
      simp only
      cases tk σ o with
      | none => rfl
      | some σ' =>
        simp only
        rw [bw_cong P r r' n (a + 1) σ' (fun i o h1 h2 h3 => e i o (by omega) (by omega) h3)]
def SameG (K P : Nat) (g g' : Nat → Int32) : Prop := ∀ a c, a < K → c ≤ P → g (a * 7 + c) = g' (a * 7 + c)
theorem isSolved_56_ok {ca cp sb ba bp : Int32} {gains sg bs : Nat → Int32} (hP : P ≤ 6) {a : Nat} (ha : a < 8) (k46 : Int32 → Option Int32) :
    ∀ (n c : Nat), c ≤ P + 1 → P + 1 - c < n → (∀ i, i < c → gains (a * 7 + i) = sg (a * 7 + i)) → f_X4_isSolved_56 N ca (nI P) sb ba bp gains sg bs k46 n (nI a) (nI c) = some 0 ∨
      (f_X4_isSolved_56 N ca (nI P) sb ba bp gains sg bs k46 n (nI a) (nI c) = k46 (nI (a + 1)) ∧ ∀ i, i ≤ P → gains (a * 7 + i) = sg (a * 7 + i)) := by
  intro n
  induction n with
  | zero => intro q h1 h2; omega
  | succ n ih =>
    intro c hc hn hs
    rw [f_X4_isSolved_56]
    by_cases h : P < c
    · simp (disch := omega) only [bd, rdI_n, wrI_n, rdL_n, wrL_n, ix6, ix6', ix7, ix7', ix8, ix8', nI_1, q_lt, if_pos]
      exact Or.inr ⟨trivial, fun i hi => hs i (by omega)⟩
    · simp (disch := omega) only [bd, rdI_n, wrI_n, rdL_n, wrL_n, ix6, ix6', ix7, ix7', ix8, ix8', nI_1, q_lt, if_neg h]
      by_cases e : gains (a * 7 + c) = sg (a * 7 + c)
      · rw [if_pos e]
        exact ih (c + 1) (by omega) (by omega) (fun i hi => by rcases Nat.lt_or_ge i c with z | z; exact hs i z; rw [show i = c by omega]; exact e)
      · rw [if_neg e]
        exact Or.inl rfl
theorem isSolved_46_ok {cp sb ba bp : Int32} {gains sg bs : Nat → Int32} (hK : K ≤ 8) (hP : P ≤ 6) (hN : 40000 ≤ N) :
    ∀ (n a : Nat), a ≤ K → K - a < n → SameG a P gains sg → f_X4_isSolved_46 N (nI K) (nI P) sb ba bp gains sg bs n (nI a) = some 0 ∨
      (f_X4_isSolved_46 N (nI K) (nI P) sb ba bp gains sg bs n (nI a) = some 1 ∧ SameG K P gains sg) := by
  intro n
  induction n with
  | zero => intro q h1 h2; omega
  | succ n ih =>
    intro a ha hn hs
    rw [f_X4_isSolved_46]
    by_cases h : K ≤ a
    · have : a = K := by omega
      subst this
      simp (disch := omega) only [bd, rdI_n, wrI_n, rdL_n, wrL_n, ix6, ix6', ix7, ix7', ix8, ix8', nI_1, q_le, if_pos]
      exact Or.inr ⟨trivial, hs⟩
    · simp (disch := omega) only [bd, rdI_n, wrI_n, rdL_n, wrL_n, ix6, ix6', ix7, ix7', ix8, ix8', nI_1, q_le, if_neg h]
      rcases isSolved_56_ok (N := N) (ca := nI K) (cp := cp) (sb := sb) (ba := ba) (bp := bp) (gains := gains) (sg := sg) (bs := bs) hP (show a < 8 by omega) (f_X4_isSolved_46 N (nI K) (nI P) sb ba bp gains sg bs n) N 0 (by omega) (by omega) (fun i hi => absurd hi (Nat.not_lt_zero i)) with z | ⟨z, hz⟩
      · exact Or.inl z
      · rw [show (0 : Int32) = nI 0 from rfl, z]
        exact ih (a + 1) (by omega) (by omega) (fun b c hb hc => by rcases Nat.lt_or_ge b a with y | y; exact hs b c y hc; rw [show b = a by omega]; exact hz c hc)
/-- solved or not: if so, for the same givings -/
theorem isSolved_ok (hN : 40000 ≤ N) (hK : K ≤ 8) (hP : P ≤ 6) (hS : ∀ q, S q ≤ 3) {cs : Nat → Int32} (e3 : ∀ q, q < 6 → cs q = nI (S q)) (ca cp sb : Int32) (gains sg : Nat → Int32) :
    f_X4_isSolved N ca cp sb (nI K) (nI P) gains sg cs = some 0 ∨
      (f_X4_isSolved N ca cp sb (nI K) (nI P) gains sg cs = some 1 ∧ ca = nI K ∧ cp = nI P ∧ sb = nI (e4 S P) ∧ SameG K P gains sg) := by
  unfold f_X4_isSolved
  by_cases h1 : ca = nI K
  · rw [if_pos h1]
    by_cases h2 : cp = nI P
    · rw [if_pos h2, X0_seatBits_ok hN hP hS e3, bd]
      by_cases h3 : sb = nI (e4 S P)
      · rw [if_pos h3, h1, h2]
        rcases isSolved_46_ok (cp := cp) (sb := sb) (ba := nI K) (bp := nI P) (gains := gains) (sg := sg) (bs := cs) hK hP hN N 0 (Nat.zero_le _) (by omega) (fun a c h => absurd h (Nat.not_lt_zero a)) with z | ⟨z, hz⟩
        · exact Or.inl z
        · exact Or.inr ⟨z, rfl, rfl, h3, hz⟩
      · rw [if_neg h3]; exact Or.inl rfl
    · rw [if_neg h2]; exact Or.inl rfl
  · rw [if_neg h1]; exact Or.inl rfl
/-! clips -/
def tq (K : Nat) (gains : Nat → Int32) (k q : Nat) : Nat := tkr (gF K gains k) q
theorem tq_end {gains : Nat → Int32} {q : Nat} : tq K gains K q = 0 := by unfold tq; rw [gF_nil]; rfl
theorem tq_step {gains : Nat → Int32} {k q : Nat} (h : k < K) : tq K gains k q = tq K gains (k + 1) q + (if gains (k * 7 + (q + 1)) = RUL then 0 else 1) := by
  unfold tq
  rw [gF_cons h, tkr]
  congr 1
  unfold gRow
  by_cases e : gains (k * 7 + (q + 1)) = RUL
  · rw [if_pos e, if_pos e, if_pos rfl]
  · rw [if_neg e, if_neg e, if_neg (by intro z; cases z)]
theorem tq_le {gains : Nat → Int32} {k q : Nat} (h : k ≤ K) : tq K gains k q ≤ K - k := by
  obtain ⟨d, hd⟩ : ∃ d, K = k + d := ⟨K - k, by omega⟩
  induction d generalizing k with
  | zero =>
    have : k = K := by omega
    subst this
    rw [tq_end]; exact Nat.zero_le _
  | succ d ih =>
    have := ih (k := k + 1) (by omega) (by omega)
    rw [tq_step (by omega)]
    split <;> omega
def cA (t : Nat) : Nat := if t = 0 then 3 else 0
def cO (t : Nat) : Nat := if t = 1 then 1 else 0
def cT (t : Nat) : Nat := if t = 2 then 1 else 0
theorem cA_4 (f : Nat → Nat) : ∀ q, cA (f q) < 4 := fun q => by unfold cA; split <;> omega
theorem cO_4 (f : Nat → Nat) : ∀ q, cO (f q) < 4 := fun q => by unfold cO; split <;> omega
theorem cT_4 (f : Nat → Nat) : ∀ q, cT (f q) < 4 := fun q => by unfold cT; split <;> omega
/-- the three rows of clips at level k are right for places below n -/
def ClOk (t : Nat → Nat → Nat) (k n : Nat) (a o w : Nat → Int32) : Prop := a k = nI (e4 (fun q => cA (t k q)) n) ∧ o k = nI (e4 (fun q => cO (t k q)) n) ∧ w k = nI (e4 (fun q => cT (t k q)) n)
theorem setClip_ok {t : Nat → Nat → Nat} {a o w : Nat → Int32} {k q : Nat} (hk : k ≤ 8) (hq : q < 6) (ht : t k q ≤ 8) (h : ClOk t k q a o w) :
    ∃ a' o' w', f_X4_setClip N a o w (nI k) (nI (4 ^ q)) (nI (t k q)) = some (a', o', w') ∧ ClOk t k (q + 1) a' o' w' ∧ ∀ j, j ≠ k → a' j = a j ∧ o' j = o j ∧ w' j = w j := by
  obtain ⟨h1, h2, h3⟩ := h
  have hA := e4_or (cA_4 (t k)) q
  have hO := e4_or (cO_4 (t k)) q
  have hT := e4_or (cT_4 (t k)) q
  have sA : ¬ t k q = 0 → e4 (fun q => cA (t k q)) (q + 1) = e4 (fun q => cA (t k q)) q := fun z => by rw [e4]; unfold cA; rw [if_neg z]; simp
  have sO : ¬ t k q = 1 → e4 (fun q => cO (t k q)) (q + 1) = e4 (fun q => cO (t k q)) q := fun z => by rw [e4]; unfold cO; rw [if_neg z]; simp
  have sT : ¬ t k q = 2 → e4 (fun q => cT (t k q)) (q + 1) = e4 (fun q => cT (t k q)) q := fun z => by rw [e4]; unfold cT; rw [if_neg z]; simp
  unfold f_X4_setClip
  simp (disch := omega) only [bd, rdI_n, wrI_n, rdL_n, wrL_n, ix6, ix6', ix7, ix7', ix8, ix8', nI_1, q_eq0, q_eq1, q_eq2]
  by_cases e0 : t k q = 0
  · rw [if_pos e0]
    refine ⟨_, o, w, rfl, ⟨?_, by rw [sO (by omega)]; exact h2, by rw [sT (by omega)]; exact h3⟩, fun j hj => ⟨pk_un hj, rfl, rfl⟩⟩
    rw [pk_us, h1, show (3 : Int32) = nI 3 from rfl, nI_mul, nI_or, ← hA]
    congr 2
    unfold cA; rw [if_pos e0]
  · rw [if_neg e0]
    by_cases e1 : t k q = 1
    · rw [if_pos e1]
      refine ⟨a, _, w, rfl, ⟨by rw [sA e0]; exact h1, ?_, by rw [sT (by omega)]; exact h3⟩, fun j hj => ⟨rfl, pk_un hj, rfl⟩⟩
      rw [pk_us, h2, nI_or, ← hO]
      congr 2
      unfold cO; rw [if_pos e1, Nat.one_mul]
    · rw [if_neg e1]
      by_cases e2 : t k q = 2
      · rw [if_pos e2]
        refine ⟨a, o, _, rfl, ⟨by rw [sA e0]; exact h1, by rw [sO e1]; exact h2, ?_⟩, fun j hj => ⟨rfl, rfl, pk_un hj⟩⟩
        rw [pk_us, h3, nI_or, ← hT]
        congr 2
        unfold cT; rw [if_pos e2, Nat.one_mul]
      · rw [if_neg e2]
        exact ⟨a, o, w, rfl, ⟨by rw [sA e0]; exact h1, by rw [sO e1]; exact h2, by rw [sT e2]; exact h3⟩, fun j hj => ⟨rfl, rfl, rfl⟩⟩
theorem sh_one {q : Nat} (hq : q < 6) : (1 : Int32) <<< ((2 * nI q) &&& 31) = nI (4 ^ q) := by
  have h4 := p4_6 hq
  have := sh_4 (q := q) (x := 1) (by omega) (by omega)
  rw [Nat.one_mul] at this
  exact this
theorem setClips_54_ok {gains : Nat → Int32} (hK : K ≤ 8) {q : Nat} (hq : q < 6) (k39 : (Nat → Int32) → (Nat → Int32) → (Nat → Int32) → Int32 → Option ((Nat → Int32) × (Nat → Int32) × (Nat → Int32))) :
    ∀ (n m : Nat) (a o w : Nat → Int32), m ≤ K + 1 → m < n → (∀ k, k < m → ClOk (tq K gains) k q a o w) → (∀ k, m ≤ k → k ≤ K → ClOk (tq K gains) k (q + 1) a o w) →
      ∃ a' o' w', (∀ k, k ≤ K → ClOk (tq K gains) k (q + 1) a' o' w') ∧ f_X4_setClips_54 N (nI K) (nI P) gains k39 n a o w (nI q) (nI (if m ≤ K then tq K gains m q else 0)) (nI m - 1) = k39 a' o' w' (nI (q + 1)) := by
  intro n
  induction n with
  | zero => intro m a o w h1 h2; omega
  | succ n ih =>
    intro m a o w hm hn hlo hhi
    rw [f_X4_setClips_54]
    cases m with
    | zero =>
      rw [if_pos (show nI 0 - 1 < 0 from by decide), nI_1]
      exact ⟨a, o, w, fun k hk => hhi k (Nat.zero_le _) hk, rfl⟩
    | succ m =>
      have ht : tq K gains m q ≤ 8 := Nat.le_trans (tq_le (by omega)) (by omega)
      obtain ⟨a', o', w', g1, g2, g3⟩ := setClip_ok (N := N) (show m ≤ 8 by omega) hq ht (hlo m (by omega))
      have fin := ih m a' o' w' (by omega) (by omega) (fun k hk => by
        obtain ⟨x1, x2, x3⟩ := g3 k (by omega)
        obtain ⟨y1, y2, y3⟩ := hlo k (by omega)
        exact ⟨x1.trans y1, x2.trans y2, x3.trans y3⟩) (fun k h1 h2 => by
        rcases Nat.eq_or_lt_of_le h1 with e | e
        · subst e; exact g2
        · obtain ⟨x1, x2, x3⟩ := g3 k (by omega)
          obtain ⟨y1, y2, y3⟩ := hhi k (by omega) h2
          exact ⟨x1.trans y1, x2.trans y2, x3.trans y3⟩)
      rw [if_pos (show m ≤ K by omega)] at fin
      have em : nI m + (-1) = nI m - 1 := by
        cases m with
        | zero => decide
        | succ i => rw [pk_m1, nI_pred]
      have hgo : ∀ x, x = nI (tq K gains m q) → f_X4_setClips_87 N (nI K) (nI P) gains (f_X4_setClips_54 N (nI K) (nI P) gains k39 n) a o w (nI q) x (nI m) = f_X4_setClips_54 N (nI K) (nI P) gains k39 n a' o' w' (nI q) (nI (tq K gains m q)) (nI m - 1) := by
        intro x hx
        unfold f_X4_setClips_87
        rw [hx, sh_one hq, g1, bd, em]
      obtain ⟨a2, o2, w2, f1, f2⟩ := fin
      refine ⟨a2, o2, w2, f1, ?_⟩
      rw [← f2, nI_pred, if_neg (nI_pos (by omega))]
      by_cases hKm : K ≤ m
      · have : m = K := by omega
        subst this
        rw [if_pos (nI_le (Nat.le_refl _) (by omega)), hgo _ (by rw [if_neg (by omega), tq_end])]
      · have hst := tq_step (gains := gains) (q := q) (show m < K by omega)
        rw [if_neg (nI_ge (by omega) (by omega)), ix7, nI_1, rdI_n _ (by omega) (by decide), bd, if_pos (show m + 1 ≤ K by omega)]
        rw [show m * 7 + (q + 1) = m * 7 + q + 1 from rfl] at hst
        by_cases hr : gains (m * 7 + q + 1) = RUL
        · rw [if_pos hr] at hst
          rw [if_pos (show gains (m * 7 + q + 1) = -2000000000 from hr), hgo _ (congrArg nI (by omega))]
        · rw [if_neg hr] at hst
          rw [if_neg (show ¬ gains (m * 7 + q + 1) = -2000000000 from hr), hgo _ (by rw [hst, nI_1])]
theorem setClips_39_ok {gains : Nat → Int32} (hK : K ≤ 8) (hP : P ≤ 6) (hN : 40000 ≤ N) :
    ∀ (n q : Nat) (a o w : Nat → Int32), q ≤ P → P - q < n → (∀ k, k ≤ K → ClOk (tq K gains) k q a o w) →
      ∃ a' o' w', (∀ k, k ≤ K → ClOk (tq K gains) k P a' o' w') ∧ f_X4_setClips_39 N (nI K) (nI P) gains n a o w (nI q) = some (a', o', w') := by
  intro n
  induction n with
  | zero => intro q a o w h1 h2; omega
  | succ n ih =>
    intro q a o w hq hn h
    rw [f_X4_setClips_39]
    by_cases hc : P ≤ q
    · have : q = P := by omega
      subst this
      simp (disch := omega) only [bd, rdI_n, wrI_n, rdL_n, wrL_n, ix6, ix6', ix7, ix7', ix8, ix8', nI_1, q_le, if_pos]
      exact ⟨a, o, w, h, rfl⟩
    · simp (disch := omega) only [bd, rdI_n, wrI_n, rdL_n, wrL_n, ix6, ix6', ix7, ix7', ix8, ix8', nI_1, q_le, if_neg hc]
      obtain ⟨a', o', w', g1, g2⟩ := setClips_54_ok (N := N) (P := P) hK (show q < 6 by omega) (f_X4_setClips_39 N (nI K) (nI P) gains n) N (K + 1) a o w (Nat.le_refl _) (by omega) (fun k hk => h k (by omega)) (fun k h1 h2 => by omega)
      rw [if_neg (by omega), nI_pred] at g2
      rw [show (0 : Int32) = nI 0 from rfl, g2]
      exact ih (q + 1) a' o' w' (by omega) (by omega) g1
theorem setClips_2_ok {gains : Nat → Int32} (hK : K ≤ 8) (hP : P ≤ 6) (hN : 40000 ≤ N) :
    ∀ (n k : Nat) (a o w : Nat → Int32), k ≤ K + 1 → K + 1 - k < n → (∀ j, j < k → ClOk (tq K gains) j 0 a o w) →
      ∃ a' o' w', (∀ k, k ≤ K → ClOk (tq K gains) k P a' o' w') ∧ f_X4_setClips_2 N (nI K) (nI P) gains n a o w (nI k) = some (a', o', w') := by
  intro n
  induction n with
  | zero => intro q a o w h1 h2; omega
  | succ n ih =>
    intro k a o w hk hn h
    rw [f_X4_setClips_2]
    by_cases hc : K < k
    · simp (disch := omega) only [bd, rdI_n, wrI_n, rdL_n, wrL_n, ix6, ix6', ix7, ix7', ix8, ix8', nI_1, q_lt, if_pos]
      exact setClips_39_ok hK hP hN N 0 a o w (Nat.zero_le _) (by omega) (fun j hj => h j (by omega))
    · simp (disch := omega) only [bd, rdI_n, wrI_n, rdL_n, wrL_n, ix6, ix6', ix7, ix7', ix8, ix8', nI_1, q_lt, if_neg hc]
      refine ih (k + 1) _ _ _ (by omega) (by omega) (fun j hj => ?_)
      by_cases e : j = k
      · rw [e]; exact ⟨pk_us, pk_us, pk_us⟩
      · obtain ⟨x1, x2, x3⟩ := h j (by omega)
        exact ⟨(pk_un e).trans x1, (pk_un e).trans x2, (pk_un e).trans x3⟩
theorem setClips_ok {gains : Nat → Int32} (hK : K ≤ 8) (hP : P ≤ 6) (hN : 40000 ≤ N) (a o w : Nat → Int32) :
    ∃ a' o' w', (∀ k, k ≤ K → ClOk (tq K gains) k P a' o' w') ∧ f_X4_setClips N (nI K) (nI P) gains a o w = some (a', o', w') :=
  setClips_2_ok hK hP hN N 0 a o w (Nat.zero_le _) (by omega) (fun j hj => absurd hj (Nat.not_lt_zero j))
end SEARCH1
