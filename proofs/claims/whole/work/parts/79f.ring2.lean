/-! RING2: the class's and the reference's shortest ring -/
section RING2
variable {N K P : Nat} {S : Nat → Nat} {W T : Nat → Nat → Nat}
theorem frst_lt {p : Nat → Bool} {n i : Nat} (hi : i < n) (hp : p i = true) : frst p n < n := by
  obtain ⟨h1, h2, h3⟩ := frst_ok p n
  rcases Nat.lt_or_ge (frst p n) n with z | z
  · exact z
  · rw [h3 i (by omega)] at hp; cases hp
theorem frst_nlt {p : Nat → Bool} {n : Nat} (hp : ∀ i, i < n → p i = false) : ¬ frst p n < n := by
  intro h
  have := (frst_ok p n).2.1 h
  rw [hp _ h] at this
  cases this
/-- the first member that starts a ring of l + 1 -/
def fF (R : Nat → Nat → Bool) (K l : Nat) : Nat := frst (fun f => cwB R K f l f) K
/-- the least l with a ring of l + 1 -/
def lL (R : Nat → Nat → Bool) (K : Nat) : Nat := frst (fun l => decide (fF R K l < K)) K
def rngB (R : Nat → Nat → Bool) (K l : Nat) : Nat → Nat
  | 0 => fF R K l
  | i + 1 => grB R K (fF R K l) l (fF R K l) i
def lnB (R : Nat → Nat → Bool) (K : Nat) : Nat := if lL R K < K then lL R K + 1 else 0
theorem fF_no {R : Nat → Nat → Bool} {l : Nat} : ¬ fF R K l < K ↔ ∀ f, f < K → cwB R K f l f = false := by
  constructor
  · intro h f hf
    cases hc : cwB R K f l f with
    | false => rfl
    | true => exact absurd (frst_lt (p := fun f => cwB R K f l f) hf hc) h
  · intro h
    exact frst_nlt h
theorem hasRing_2_ok (hN : 40000 ≤ N) (hK : K ≤ 8) {R : Nat → Nat → Bool} {wants : Nat → Int32} (hwt : ∀ a, a < K → wants a = nI (em (R a) K)) {l : Nat} (hl : l < K) (hno : ∀ l', l' < l → ¬ fF R K l' < K) :
    ∀ (n f : Nat) (mem : Nat → Int32), f ≤ K → K - f < n → (∀ f', f' < f → cwB R K f' l f' = false) →
      ∃ res mem', f_X3_hasRing_2 N (nI K) wants n mem (nI (l + 1)) (nI f) = some (res, mem') ∧ (fF R K l < K → res = 1 ∧ ∀ i, i ≤ l → mem' i = nI (rngB R K l i)) ∧ (¬ fF R K l < K → res = 0) := by
  intro n
  induction n with
  | zero => intro f mem h1 h2; omega
  | succ n ih =>
    intro f mem h1 h2 h3
    rw [f_X3_hasRing_2]
    by_cases hc : K ≤ f
    · have : f = K := by omega
      subst this
      rw [if_pos (nI_le (Nat.le_refl _) (by omega))]
      have := (fF_no (R := R) (l := l)).mpr (fun f' hf' => h3 f' hf')
      exact ⟨0, mem, rfl, fun z => absurd z this, fun _ => rfl⟩
    · rw [if_neg (nI_ge (by omega) (by omega)), show wrI 8 mem 0 (nI f) = some (upd mem 0 (nI f)) from wrI_n (i := 0) _ _ (by decide) (by decide), bd, one_sh (by omega)]
      obtain ⟨res, mem', r1, r2, r3, r4⟩ := closes_ok (N := N) hN hK hwt (show f < K by omega) (show l + 1 ≤ K by omega) (Or.inl (fun l' hl' => (fF_no (R := R)).mp (hno l' (by omega)) f (by omega))) 9 1 (upd mem 0 (nI f)) (fun _ => f) (2 ^ f) (by omega) (by omega) (by omega)
        (fun i hi => by
          have : i = 0 := by omega
          subst this
          exact ⟨pk_us, by omega, fun z => by omega⟩) rfl (fun i hi => by omega) (Nat.pow_lt_pow_right (by decide) (by omega))
        (fun o ho => by
          have := bt_set (n := 0) (i := o) (j := f)
          rw [Nat.zero_or] at this
          rw [this]
          by_cases e : o = f
          · rw [if_pos e]; exact ⟨fun _ => ⟨0, by omega, e.symm⟩, fun _ => rfl⟩
          · rw [if_neg e]
            constructor
            · intro z
              simp [bt] at z
            · rintro ⟨i, i1, i2⟩; exact absurd i2.symm e)
      rw [show (1 : Int32) = nI 1 from rfl, r1, bd]
      simp only
      rw [show l + 1 - 1 = l by omega] at r3 r4
      by_cases hcw : cwB R K f l f = true
      · obtain ⟨r5, r6⟩ := r3 hcw
        rw [r5, if_neg (show ¬ (1 : Int32) = 0 from one_ne)]
        have hf : fF R K l = f := frst_eq (by omega) hcw h3
        refine ⟨_, mem', rfl, fun _ => ⟨rfl, fun i hi => ?_⟩, fun z => absurd (show fF R K l < K by omega) z⟩
        cases i with
        | zero => rw [rngB, hf, r2 0 (by omega), pk_us]
        | succ i =>
          rw [rngB, hf, show i + 1 = 1 + i by omega]
          exact r6 i (by omega)
      · have hcf : cwB R K f l f = false := by simpa using hcw
        rw [r4 hcf, if_pos rfl, nI_add]
        exact ih (f + 1) mem' (by omega) (by omega) (fun f' hf' => by
          rcases Nat.lt_or_ge f' f with z | z
          · exact h3 f' z
          · rw [show f' = f by omega]; exact hcf)
theorem lL_lt {R : Nat → Nat → Bool} (h : lL R K < K) : fF R K (lL R K) < K := by
  exact of_decide_eq_true ((frst_ok (fun l => decide (fF R K l < K)) K).2.1 h)
theorem find_39_ok (hN : 40000 ≤ N) (hK : K ≤ 8) {R : Nat → Nat → Bool} {wants ct cw : Nat → Int32} (hwt : ∀ a, a < K → wants a = nI (em (R a) K)) :
    ∀ (n l : Nat) (mem : Nat → Int32), l ≤ K → K + 1 - l < n → (∀ l', l' < l → ¬ fF R K l' < K) →
      ∃ mem' wants', f_X3_find_39 N (nI K) ct cw n 0 mem wants (nI (l + 1)) = some (nI (lnB R K), mem', wants') ∧ ∀ i, i < lnB R K → mem' i = nI (rngB R K (lL R K) i) := by
  intro n
  induction n with
  | zero => intro l mem h1 h2; omega
  | succ n ih =>
    intro l mem h1 h2 h3
    rw [f_X3_find_39]
    by_cases hc : K < l + 1
    · rw [if_pos (nI_lt hc (by omega))]
      have : ¬ lL R K < K := frst_nlt (fun l' hl' => by simpa using h3 l' (by omega))
      unfold lnB
      rw [if_neg this]
      exact ⟨mem, wants, rfl, fun i hi => absurd hi (Nat.not_lt_zero i)⟩
    · obtain ⟨res, mem', r1, r2, r3⟩ := hasRing_2_ok (N := N) hN hK hwt (show l < K by omega) h3 N 0 mem (by omega) (by omega) (fun f' hf' => absurd hf' (Nat.not_lt_zero _))
      have r1' : f_X3_hasRing N (nI K) wants mem (nI (l + 1)) = some (res, mem') := r1
      rw [if_neg (nI_nlt (by omega) (by omega)), if_pos rfl, r1', bd]
      simp only
      by_cases hf : fF R K l < K
      · obtain ⟨r4, r5⟩ := r2 hf
        have hL : lL R K = l := frst_eq (by omega) (by simpa using hf) (fun l' hl' => by simpa using h3 l' hl')
        rw [r4, if_neg one_ne]
        cases n with
        | zero => omega
        | succ n =>
          rw [f_X3_find_39]
          refine ⟨mem', wants, ?_, fun i hi => ?_⟩
          · have hln : lnB R K = l + 1 := by unfold lnB; rw [hL, if_pos (by omega)]
            rw [hln, nI_1]
            by_cases e : K < l + 1 + 1
            · rw [if_pos (nI_lt e (by omega))]
            · rw [if_neg (nI_nlt (by omega) (by omega)), if_neg (nI_ne0 (by omega) (by omega))]
          · rw [hL]
            unfold lnB at hi
            rw [hL, if_pos (by omega)] at hi
            exact r5 i (by omega)
      · rw [r3 hf, if_pos rfl, nI_1]
        exact ih (l + 1) mem' (by omega) (by omega) (fun l' hl' => by
          rcases Nat.lt_or_ge l' l with z | z
          · exact h3 l' z
          · rw [show l' = l by omega]; exact hf)
theorem find_2_ok (hN : 40000 ≤ N) (hG : GD K P S W T) {ct cw : Nat → Int32} (hw4 : ∀ a q, a < 8 → q < 6 → cw (a * 6 + q) = nI (W a q)) (ht5 : ∀ g a, g < 4 → a < 8 → ct (g * 8 + a) = oI (T g a)) {m h : Nat} (hm : m < 4) (hh : h < 4) {c_length : Int32} {mem : Nat → Int32} :
    ∀ (n a : Nat) (wants : Nat → Int32), a ≤ K → K - a < n → (∀ a', a' < a → wants a' = nI (em (wntB W T m h a') K)) →
      ∃ mem' wants', f_X3_find_2 N (nI K) ct cw n c_length mem wants (nI m) (nI h) (nI a) = some (nI (lnB (wntB W T m h) K), mem', wants') ∧ ∀ i, i < lnB (wntB W T m h) K → mem' i = nI (rngB (wntB W T m h) K (lL (wntB W T m h) K) i) := by
  have hK := hG.K8
  intro n
  induction n with
  | zero => intro a wants h1 h2; omega
  | succ n ih =>
    intro a wants h1 h2 h3
    rw [f_X3_find_2]
    by_cases hc : K ≤ a
    · have : a = K := by omega
      subst this
      rw [if_pos (nI_le (Nat.le_refl _) (by omega))]
      exact find_39_ok (N := N) hN hK h3 N 0 mem (Nat.zero_le _) (by omega) (fun l' hl' => absurd hl' (Nat.not_lt_zero _))
    · rw [if_neg (nI_ge (by omega) (by omega)), wantsOf_ok hN hK hG.W6 hG.T6 hw4 ht5 hm hh (show a < 8 by omega), bd, wrI_n _ _ (by omega) (by decide), bd, nI_1]
      exact ih (a + 1) _ (by omega) (by omega) (fun a' ha' => by
        by_cases e : a' = a
        · rw [e, pk_us]
        · rw [pk_un e]; exact h3 a' (by omega))
/-! the reference -/
def boI (b : Bool) : Int32 := if b then 1 else 0
theorem boI_1 {b : Bool} : (boI b = 0) = (b = false) := by cases b <;> simp [boI]
theorem boI_nar (b : Bool) : vp_nar .boolean (boI b) = boI b := by cases b <;> decide
theorem X8_wants_ok (hG : GD K P S W T) {mt mw : Nat → Int32} (m4 : ∀ a q, a < 8 → q < 6 → mw (a * 6 + q) = nI (W a q)) (m5 : ∀ g a, g < 4 → a < 8 → mt (g * 8 + a) = nI (T g a)) {m h a b : Nat} (hm : m < 4) (hh : h < 4) (ha : a < 8) (hb : b < 8) :
    f_X8_wants N mt mw (nI m) (nI h) (nI a) (nI b) = some (boI (wntB W T m h a b)) := by
  have hlt : ∀ g a, T g a < 2 ^ 31 := fun g a => by have := hG.T6 g a; omega
  have i1 : ∀ g a, (8 : Int32) * nI g + nI a = nI (g * 8 + a) := fun g a => by rw [show (8 : Int32) = nI 8 from rfl, nI_mul, nI_add, Nat.mul_comm]
  unfold f_X8_wants f_X8_wants_33
  rw [i1, rdI_n _ (by omega) (by decide), bd, m5 h a hh ha, i1, rdI_n _ (by omega) (by decide)]
  by_cases h1 : T h a = 0
  · rw [if_pos (by rw [h1]; decide), f_X8_wants_34, if_pos rfl]
    simp [wntB, h1, boI]
  · rw [if_neg (by rw [q_le0 (hlt _ _)]; exact h1), bd, m5 h b hh hb]
    by_cases h2 : T h b = 0
    · rw [if_pos (by rw [h2]; decide), f_X8_wants_34, if_pos rfl]
      simp [wntB, h2, boI]
    · have ho : ∀ g a, wo W a (T g a) < 2 ^ 31 := fun g a => by have := wo_le W hG.W6 a (T g a); omega
      have ho2 : wo W a (T h b) < 2 ^ 31 := by have := wo_le W hG.W6 a (T h b); omega
      rw [if_neg (by rw [q_le0 (hlt _ _)]; exact h2), f_X8_wants_34, if_neg one_ne, i1, rdI_n _ (by omega) (by decide), bd, m5 h b hh hb, X8_worthOf_ok N hG.W6 m4 ha (hG.T6 _ _), bd, i1, rdI_n _ (by omega) (by decide), bd, m5 m a hm ha, X8_worthOf_ok N hG.W6 m4 ha (hG.T6 _ _), bd]
      simp only [q_le (ho _ _) ho2]
      by_cases h3 : wo W a (T m a) ≤ wo W a (T h b)
      · rw [if_pos h3]; simp [wntB, boI]; omega
      · rw [if_neg h3]; simp [wntB, boI, h1, h2]; omega
end RING2
