/-! shares: one step of both sides -/
section EAT2
variable {N K P : Nat} {S : Nat → Nat} {W T : Nat → Nat → Nat}
theorem pk_uLs' {f : Nat → Int64} {k : Nat} {x : Int64} : vp_updL f k x k = x := pk_uLs
/-- bounds of a state of eating -/
def EB (P : Nat) (w τ : Nat) (r : Nat → Nat) : Prop := w ≤ 262144 ∧ τ ≤ w ∧ ∀ q, q < P → r q ≤ 3 * w
theorem su_13 (hP : P ≤ 6) (hK : K ≤ 8) {w τ : Nat} {r o : Nat → Nat} (hb : EB P w τ r) {et : Nat → Int32} {rest : Nat → Int64} (het : ∀ q, q < 6 → et q = nI (had K o (q + 1))) (hr : RsIs P r rest) :
    ∀ (n q : Nat), q ≤ P → P - q < n → f_X1_soonestUp_13 N (lN τ) (nI P) et rest n (oI (sst K τ r o q).1) (lN (sst K τ r o q).2.1) (lN (sst K τ r o q).2.2) (nI q) = some (oI (sst K τ r o P).1) := by
  obtain ⟨hb1, hb2, hb3⟩ := hb
  intro n
  induction n with
  | zero => intro q h1 h2; omega
  | succ n ih =>
    intro q hq hn
    rw [f_X1_soonestUp_13]
    by_cases hc : P ≤ q
    · have : q = P := by omega
      subst this
      rw [if_pos (nI_le (Nat.le_refl _) (by omega))]
    · obtain ⟨r1, r2⟩ := hr q (by omega)
      have hrb := hb3 q (by omega)
      have hh : had K o (q + 1) ≤ K := fb_ct_le _ _
      have hrec := ih (q + 1) (by omega) (by omega)
      rw [sst] at hrec
      obtain ⟨i1, i2, i3, i4, i5⟩ := sst_ok (K := K) τ r o q
      have hup : (sst K τ r o q).2.1 ≤ 786432 := by
        rcases i5 with ⟨_, e, _⟩ | ⟨p, p1, _, e, _⟩
        · rw [e]; omega
        · rw [e]; have := hb3 p (by omega); omega
      have hby : (sst K τ r o q).2.2 ≤ 8 := by omega
      generalize sst K τ r o q = z at *
      obtain ⟨s, u, b⟩ := z
      simp only at *
      have m1 : u * had K o (q + 1) ≤ 786432 * 8 := Nat.mul_le_mul hup (by omega)
      have m2 : r q * b ≤ 786432 * 8 := Nat.mul_le_mul (by omega) hby
      rw [if_neg (nI_ge (by omega) (by omega)), rdI_n _ (by omega) (by decide), bd, het q (by omega)]
      simp (disch := omega) only [q_le0]
      by_cases h0 : had K o (q + 1) = 0
      · rw [if_neg (by omega)] at hrec
        rw [if_pos h0, nI_1]
        exact hrec
      · rw [if_neg h0, rdL_n _ (by omega) (by decide), bd, bd, r1, nI_l (by omega), lN_mul, lN_mul]
        by_cases hlt : r q * b < u * had K o (q + 1)
        · rw [if_pos ⟨by omega, hlt⟩] at hrec
          rw [if_neg (fun z => by have := (lN_le (by omega) (by omega)).mp z; omega), bd, bd, nI_l (by omega), nI_1, ← oI_s q]
          exact hrec
        · rw [if_neg (fun z => hlt z.2)] at hrec
          rw [if_pos ((lN_le (by omega) (by omega)).mpr (by omega)), nI_1]
          exact hrec
theorem soonest_ok (hN : 40000 ≤ N) (hP : P ≤ 6) (hK : K ≤ 8) {w τ : Nat} {r o : Nat → Nat} (hb : EB P w τ r) {et : Nat → Int32} {rest : Nat → Int64} (het : ∀ q, q < 6 → et q = nI (had K o (q + 1))) (hr : RsIs P r rest) : f_X1_soonestUp N (lN τ) (nI P) et rest = some (oI (sst K τ r o P).1) := by
  have := su_13 (N := N) (o := o) hP hK hb het hr N 0 (Nat.zero_le _) (by omega)
  unfold f_X1_soonestUp
  rw [← oI_0]
  exact this
/-- all amounts grow alike -/
theorem rf_49 {b : Nat} (hb : b < 2 ^ 31) {ww tt : Int64} {eaten : Nat → Int64} :
    ∀ (n i : Nat) (rest rest0 : Nat → Int64), i ≤ 6 → 6 - i < n → (∀ q, rest q = if q < i then rest0 q * lN b else rest0 q) → ∃ rest', f_X1_refine_49 N n ww tt eaten rest (nI b) (nI i) = some (ww, tt, eaten, rest') ∧ ∀ q, q < 6 → rest' q = rest0 q * lN b := by
  intro n
  induction n with
  | zero => intro i r r0 h1 h2; omega
  | succ n ih =>
    intro i rest rest0 hi hn h
    rw [f_X1_refine_49]
    by_cases hc : 6 ≤ i
    · have : i = 6 := by omega
      subst this
      rw [if_pos (show (6 : Int32) ≤ nI 6 from by decide)]
      exact ⟨rest, rfl, fun q hq => by rw [h q, if_pos hq]⟩
    · rw [if_neg (show ¬ (6 : Int32) ≤ nI i from nI_ge (b := 6) (by omega) (by decide)), rdL_n _ (by omega) (by decide), bd, wrL_n _ _ (by omega) (by decide), bd, nI_1, nI_l hb]
      refine ih (i + 1) _ rest0 (by omega) (by omega) (fun q => ?_)
      by_cases e : q = i
      · rw [e, pk_uLs, h i, if_neg (Nat.lt_irrefl _), if_pos (by omega)]
      · rw [pk_uLn e, h q]
        by_cases e2 : q < i
        · rw [if_pos e2, if_pos (by omega)]
        · rw [if_neg e2, if_neg (by omega)]
theorem rf_24 (hN : 40000 ≤ N) {b : Nat} (hb : b < 2 ^ 31) {ww tt : Int64} {rest : Nat → Int64} :
    ∀ (n i : Nat) (eaten eaten0 : Nat → Int64), i ≤ 48 → 48 - i < n → (∀ k, eaten k = if k < i then eaten0 k * lN b else eaten0 k) → ∃ eaten' rest', f_X1_refine_24 N n ww tt eaten rest (nI b) (nI i) = some (ww, tt, eaten', rest') ∧ (∀ k, k < 48 → eaten' k = eaten0 k * lN b) ∧ ∀ q, q < 6 → rest' q = rest q * lN b := by
  intro n
  induction n with
  | zero => intro i r r0 h1 h2; omega
  | succ n ih =>
    intro i eaten eaten0 hi hn h
    rw [f_X1_refine_24]
    by_cases hc : 48 ≤ i
    · have : i = 48 := by omega
      subst this
      rw [if_pos (show (48 : Int32) ≤ nI 48 from by decide)]
      obtain ⟨rest', r1, r2⟩ := rf_49 (N := N) hb (ww := ww) (tt := tt) (eaten := eaten) N 0 rest rest (Nat.zero_le _) (by omega) (fun q => by rw [if_neg (by omega)])
      exact ⟨eaten, rest', r1, fun k hk => by rw [h k, if_pos hk], r2⟩
    · rw [if_neg (show ¬ (48 : Int32) ≤ nI i from nI_ge (b := 48) (by omega) (by decide)), rdL_n _ (by omega) (by decide), bd, wrL_n _ _ (by omega) (by decide), bd, nI_1, nI_l hb]
      refine ih (i + 1) _ eaten0 (by omega) (by omega) (fun q => ?_)
      by_cases e : q = i
      · rw [e, pk_uLs, h i, if_neg (Nat.lt_irrefl _), if_pos (by omega)]
      · rw [pk_uLn e, h q]
        by_cases e2 : q < i
        · rw [if_pos e2, if_pos (by omega)]
        · rw [if_neg e2, if_neg (by omega)]
/-- eaten amounts, asker by asker -/
def EtIs (e : Nat → Nat → Nat) (eaten : Nat → Int64) : Prop := ∀ a q, a < 8 → q < 6 → eaten (a * 6 + q) = lN (e a q)
def eat1 (o : Nat → Nat) (u n : Nat) (e : Nat → Nat → Nat) : Nat → Nat → Nat := fun a q => if a < n ∧ o a = q + 1 then e a q + u else e a q
theorem ef_2 (hK : K ≤ 8) (hP : P ≤ 6) {o : Nat → Nat} (hoP : ∀ a, a < K → o a ≤ P) {ea : Nat → Int32} (hea : ∀ x, x < K → ea x = oI (o x)) {tt : Int64} {u : Nat} {e : Nat → Nat → Nat} {r : Nat → Nat} (hu : ∀ q, q < P → u * had K o (q + 1) ≤ r q) :
    ∀ (n a : Nat) (eaten rest : Nat → Int64), a ≤ K → K - a < n → EtIs (eat1 o u a e) eaten → (∀ q, q < P → rest q = lN (r q - u * had a o (q + 1))) →
      ∃ eaten' rest', f_X1_eatFor_2 N (nI K) ea n tt eaten rest (lN u) (nI a) = some (tt - lN u, eaten', rest') ∧ EtIs (eat1 o u K e) eaten' ∧ ∀ q, q < P → rest' q = lN (r q - u * had K o (q + 1)) := by
  intro n
  induction n with
  | zero => intro a eaten rest h1 h2; omega
  | succ n ih =>
    intro a eaten rest ha hn h1 h2
    rw [f_X1_eatFor_2]
    by_cases hc : K ≤ a
    · have : a = K := by omega
      subst this
      rw [if_pos (nI_le (Nat.le_refl _) (by omega))]
      exact ⟨eaten, rest, rfl, h1, h2⟩
    · have hs : ∀ q, had (a + 1) o (q + 1) = had a o (q + 1) + (if decide (o a = q + 1) = true then 1 else 0) := fun q => rfl
      have hoa := hoP a (by omega)
      rw [if_neg (nI_ge (by omega) (by omega)), rdI_n _ (by omega) (by decide), bd, hea a (by omega)]
      cases ho : o a with
      | zero =>
        rw [oI_0, if_pos (show (-1 : Int32) < 0 from by decide), nI_1]
        refine ih (a + 1) eaten rest (by omega) (by omega) (fun x q hx hq => ?_) (fun q hq => ?_)
        · rw [h1 x q hx hq]
          unfold eat1
          by_cases z : x < a ∧ o x = q + 1
          · rw [if_pos z, if_pos ⟨by omega, z.2⟩]
          · rw [if_neg z, if_neg (fun y => z ⟨by
              rcases Nat.lt_or_ge x a with v | v
              · exact v
              · rw [show x = a by omega, ho] at y; omega, y.2⟩)]
        · rw [hs, ho, if_neg (by simp)]
          exact h2 q hq
      | succ p =>
        rw [ho] at hoa
        have hle : had (a + 1) o (p + 1) ≤ had K o (p + 1) := fb_ct_mono _ (by omega)
        rw [hs, ho, if_pos (by simp)] at hle
        have hup := hu p (by omega)
        have hmul : u * (had a o (p + 1) + 1) ≤ u * had K o (p + 1) := Nat.mul_le_mul_left _ hle
        rw [Nat.mul_add, Nat.mul_one] at hmul
        rw [oI_s, if_neg (nI_pos (by omega)), if_neg (show ¬ (6 : Int32) ≤ nI p from nI_ge (b := 6) (by omega) (by decide)), ix6, rdL_n _ (by omega) (by decide), bd, wrL_n _ _ (by omega) (by decide), bd, rdL_n _ (by omega) (by decide), bd, wrL_n _ _ (by omega) (by decide), bd, nI_1, h1 a p (by omega) (by omega), h2 p (by omega), lN_add, lN_sub (by omega)]
        refine ih (a + 1) _ _ (by omega) (by omega) (fun x q hx hq => ?_) (fun q hq => ?_)
        · by_cases z : x = a ∧ q = p
          · rw [z.1, z.2, pk_uLs]
            unfold eat1
            rw [if_neg (fun y => Nat.lt_irrefl _ y.1), if_pos ⟨by omega, ho⟩]
          · rw [pk_uLn (by omega), h1 x q hx hq]
            unfold eat1
            by_cases z2 : x < a ∧ o x = q + 1
            · rw [if_pos z2, if_pos ⟨by omega, z2.2⟩]
            · rw [if_neg z2, if_neg (fun y => by
                rcases Nat.lt_or_ge x a with v | v
                · exact z2 ⟨v, y.2⟩
                · have hxa : x = a := by omega
                  rw [hxa, ho] at y
                  exact z ⟨hxa, by omega⟩)]
        · rw [hs, ho]
          by_cases e2 : q = p
          · rw [e2, pk_uLs, if_pos (by simp), Nat.mul_add, Nat.mul_one]
            congr 1
            omega
          · rw [pk_uLn e2, if_neg (by simp; omega), Nat.add_zero]
            exact h2 q hq
/-! the reference -/
theorem et_4 (hK : K ≤ 8) {o : Nat → Nat} (ho6 : ∀ a, a < K → o a ≤ 6) {ea : Nat → Int32} (hea : ∀ x, x < K → ea x = oI (o x)) {q : Nat} (hq : q < 6) :
    ∀ (n a : Nat), a ≤ K → K - a < n → f_X8_eaters_4 N (nI K) ea n (nI q) (nI (had a o (q + 1))) (nI a) = some (nI (had K o (q + 1))) := by
  intro n
  induction n with
  | zero => intro a h1 h2; omega
  | succ n ih =>
    intro a ha hn
    rw [f_X8_eaters_4]
    by_cases hc : K ≤ a
    · have : a = K := by omega
      subst this
      rw [if_pos (nI_le (Nat.le_refl _) (by omega))]
    · have hs : had (a + 1) o (q + 1) = had a o (q + 1) + (if decide (o a = q + 1) = true then 1 else 0) := rfl
      have hrec := ih (a + 1) (by omega) (by omega)
      have h6 := ho6 a (by omega)
      rw [hs] at hrec
      rw [if_neg (nI_ge (by omega) (by omega)), rdI_n _ (by omega) (by decide), bd, hea a (by omega)]
      simp (disch := omega) only [q_on]
      by_cases e : o a = q + 1
      · rw [if_pos (decide_eq_true e)] at hrec
        rw [if_pos e, nI_1, nI_1]
        exact hrec
      · rw [if_neg (by simp [e]), Nat.add_zero] at hrec
        rw [if_neg e, Int32.add_zero, nI_1]
        exact hrec
theorem eaters_ok (hN : 40000 ≤ N) (hK : K ≤ 8) {o : Nat → Nat} (ho6 : ∀ a, a < K → o a ≤ 6) {ea : Nat → Int32} (hea : ∀ x, x < K → ea x = oI (o x)) {q : Nat} (hq : q < 6) : f_X8_eaters N (nI K) ea (nI q) = some (nI (had K o (q + 1))) :=
  et_4 hK ho6 hea hq N 0 (Nat.zero_le _) (by omega)
theorem fs_257 (hK : K ≤ 8) (hP : P ≤ 6) {ms mw : Nat → Int32} {o : Nat → Nat} (hoP : ∀ a, a < K → o a ≤ P) {ea : Nat → Int32} (hea : ∀ x, x < K → ea x = oI (o x)) {ww : Int64} {left : Nat → Int64} {v1 : Int64} {u : Nat} {e : Nat → Nat → Nat} (k57 : Int64 → (Nat → Int64) → (Nat → Int32) → (Nat → Int64) → Int64 → Option (Int64 × (Nat → Int64) × (Nat → Int32) × (Nat → Int64))) :
    ∀ (n a : Nat) (ate : Nat → Int64), a ≤ K → K - a < n → EtIs (eat1 o u a e) ate → ∃ ate', f_X8_findShares_257 N (nI K) (nI P) ms mw k57 n ww ate ea left v1 (lN u) (nI a) = k57 ww ate' ea left v1 ∧ EtIs (eat1 o u K e) ate' := by
  intro n
  induction n with
  | zero => intro a ate h1 h2; omega
  | succ n ih =>
    intro a ate ha hn h1
    rw [f_X8_findShares_257]
    by_cases hc : K ≤ a
    · have : a = K := by omega
      subst this
      rw [if_pos (nI_le (Nat.le_refl _) (by omega))]
      exact ⟨ate, rfl, h1⟩
    · have hoa := hoP a (by omega)
      rw [if_neg (nI_ge (by omega) (by omega)), rdI_n _ (by omega) (by decide), bd, hea a (by omega)]
      simp (disch := omega) only [q_on1]
      cases ho : o a with
      | zero =>
        rw [if_pos rfl, nI_1]
        refine ih (a + 1) ate (by omega) (by omega) (fun x q hx hq => ?_)
        rw [h1 x q hx hq]
        unfold eat1
        by_cases z : x < a ∧ o x = q + 1
        · rw [if_pos z, if_pos ⟨by omega, z.2⟩]
        · rw [if_neg z, if_neg (fun y => z ⟨by
            rcases Nat.lt_or_ge x a with v | v
            · exact v
            · rw [show x = a by omega, ho] at y; omega, y.2⟩)]
      | succ p =>
        rw [ho] at hoa
        rw [if_neg (by omega), bd, oI_s, ix6', rdL_n _ (by omega) (by decide), bd, wrL_n _ _ (by omega) (by decide), bd, nI_1, h1 a p (by omega) (by omega), lN_add]
        refine ih (a + 1) _ (by omega) (by omega) (fun x q hx hq => ?_)
        by_cases z : x = a ∧ q = p
        · rw [z.1, z.2, pk_uLs]
          unfold eat1
          rw [if_neg (fun y => Nat.lt_irrefl _ y.1), if_pos ⟨by omega, ho⟩]
        · rw [pk_uLn (by omega), h1 x q hx hq]
          unfold eat1
          by_cases z2 : x < a ∧ o x = q + 1
          · rw [if_pos z2, if_pos ⟨by omega, z2.2⟩]
          · rw [if_neg z2, if_neg (fun y => by
              rcases Nat.lt_or_ge x a with v | v
              · exact z2 ⟨v, y.2⟩
              · have hxa : x = a := by omega
                rw [hxa, ho] at y
                exact z ⟨hxa, by omega⟩)]
theorem fs_229 (hN : 40000 ≤ N) (hK : K ≤ 8) {ms mw ea : Nat → Int32} {ww v1 : Int64} {left : Nat → Int64} {u b : Nat} (k57 : Int64 → (Nat → Int64) → (Nat → Int32) → (Nat → Int64) → Int64 → Option (Int64 × (Nat → Int64) × (Nat → Int32) × (Nat → Int64))) :
    ∀ (n i : Nat) (ate ate0 : Nat → Int64), i ≤ 48 → 48 - i < n → (∀ k, ate k = if k < i then ate0 k * lN b else ate0 k) → ∃ ate', f_X8_findShares_229 N (nI K) (nI P) ms mw k57 n ww ate ea left v1 (lN u) (lN b) (nI i) = f_X8_findShares_257 N (nI K) (nI P) ms mw k57 N ww ate' ea left v1 (lN u) 0 ∧ ∀ k, k < 48 → ate' k = ate0 k * lN b := by
  intro n
  induction n with
  | zero => intro i r r0 h1 h2; omega
  | succ n ih =>
    intro i ate ate0 hi hn h
    rw [f_X8_findShares_229]
    by_cases hc : 48 ≤ i
    · have : i = 48 := by omega
      subst this
      rw [if_pos (show (48 : Int32) ≤ nI 48 from by decide)]
      exact ⟨ate, rfl, fun k hk => by rw [h k, if_pos hk]⟩
    · rw [if_neg (show ¬ (48 : Int32) ≤ nI i from nI_ge (b := 48) (by omega) (by decide)), rdL_n _ (by omega) (by decide), bd, wrL_n _ _ (by omega) (by decide), bd, nI_1]
      refine ih (i + 1) _ ate0 (by omega) (by omega) (fun q => ?_)
      by_cases e : q = i
      · rw [e, pk_uLs, h i, if_neg (Nat.lt_irrefl _), if_pos (by omega)]
      · rw [pk_uLn e, h q]
        by_cases e2 : q < i
        · rw [if_pos e2, if_pos (by omega)]
        · rw [if_neg e2, if_neg (by omega)]
theorem fs_184 (hN : 40000 ≤ N) (hK : K ≤ 8) (hP : P ≤ 6) {ms mw : Nat → Int32} {o : Nat → Nat} (ho6 : ∀ a, a < K → o a ≤ 6) {ea : Nat → Int32} (hea : ∀ x, x < K → ea x = oI (o x)) {ww v1 : Int64} {ate : Nat → Int64} {u b : Nat} {r : Nat → Nat} (hu : ∀ q, q < P → u * had K o (q + 1) ≤ r q * b) (k57 : Int64 → (Nat → Int64) → (Nat → Int32) → (Nat → Int64) → Int64 → Option (Int64 × (Nat → Int64) × (Nat → Int32) × (Nat → Int64))) :
    ∀ (n q : Nat) (left : Nat → Int64), q ≤ P → P - q < n → (∀ p, p < P → left p = if p < q then lN (r p * b - u * had K o (p + 1)) else lN (r p)) → ∃ left', f_X8_findShares_184 N (nI K) (nI P) ms mw k57 n ww ate ea left v1 (lN u) (lN b) (nI q) = f_X8_findShares_229 N (nI K) (nI P) ms mw k57 N ww ate ea left' v1 (lN u) (lN b) 0 ∧ ∀ p, p < P → left' p = lN (r p * b - u * had K o (p + 1)) := by
  intro n
  induction n with
  | zero => intro q l h1 h2; omega
  | succ n ih =>
    intro q left hq hn h
    rw [f_X8_findShares_184]
    by_cases hc : P ≤ q
    · have : q = P := by omega
      subst this
      rw [if_pos (nI_le (Nat.le_refl _) (by omega))]
      exact ⟨left, rfl, fun p hp => by rw [h p hp, if_pos hp]⟩
    · have hh : had K o (q + 1) ≤ K := fb_ct_le _ _
      have huq := hu q (by omega)
      rw [if_neg (nI_ge (by omega) (by omega)), rdL_n _ (by omega) (by decide), bd, eaters_ok hN hK ho6 hea (by omega), bd, wrL_n _ _ (by omega) (by decide), bd, nI_1, h q (by omega), if_neg (Nat.lt_irrefl _), nI_l (by omega), lN_mul, lN_mul, Nat.mul_comm (had K o (q + 1)), lN_sub huq]
      refine ih (q + 1) _ (by omega) (by omega) (fun p hp => ?_)
      by_cases e : p = q
      · rw [e, pk_uLs, if_pos (by omega)]
      · rw [pk_uLn e, h p hp]
        by_cases e2 : p < q
        · rw [if_pos e2, if_pos (by omega)]
        · rw [if_neg e2, if_neg (by omega)]
theorem fs_102 (hN : 40000 ≤ N) (hK : K ≤ 8) (hP : P ≤ 6) {ms mw : Nat → Int32} {o : Nat → Nat} (ho6 : ∀ a, a < K → o a ≤ 6) {ea : Nat → Int32} (hea : ∀ x, x < K → ea x = oI (o x)) {w τ : Nat} {r : Nat → Nat} (hb : EB P w τ r) {ate left : Nat → Int64} (hr : RsIs P r left) (k57 : Int64 → (Nat → Int64) → (Nat → Int32) → (Nat → Int64) → Int64 → Option (Int64 × (Nat → Int64) × (Nat → Int32) × (Nat → Int64))) :
    ∀ (n q : Nat), q ≤ P → P - q < n → f_X8_findShares_102 N (nI K) (nI P) ms mw k57 n (lN w) ate ea left (lN τ) (lN (sst K τ r o q).2.1) (lN (sst K τ r o q).2.2) (nI q) = f_X8_findShares_184 N (nI K) (nI P) ms mw k57 N (lN w * lN (sst K τ r o P).2.2) ate ea left ((lN τ * lN (sst K τ r o P).2.2) - lN (sst K τ r o P).2.1) (lN (sst K τ r o P).2.1) (lN (sst K τ r o P).2.2) 0 := by
  obtain ⟨hb1, hb2, hb3⟩ := hb
  intro n
  induction n with
  | zero => intro q h1 h2; omega
  | succ n ih =>
    intro q hq hn
    rw [f_X8_findShares_102]
    by_cases hc : P ≤ q
    · have : q = P := by omega
      subst this
      rw [if_pos (nI_le (Nat.le_refl _) (by omega))]
    · obtain ⟨r1, r2⟩ := hr q (by omega)
      have hrb := hb3 q (by omega)
      have hh : had K o (q + 1) ≤ K := fb_ct_le _ _
      have hrec := ih (q + 1) (by omega) (by omega)
      rw [show sst K τ r o (q + 1) = if 0 < had K o (q + 1) ∧ r q * (sst K τ r o q).2.2 < (sst K τ r o q).2.1 * had K o (q + 1) then (q + 1, r q, had K o (q + 1)) else sst K τ r o q from rfl] at hrec
      obtain ⟨i1, i2, i3, i4, i5⟩ := sst_ok (K := K) τ r o q
      have hup : (sst K τ r o q).2.1 ≤ 786432 := by
        rcases i5 with ⟨_, e, _⟩ | ⟨p, p1, _, e, _⟩
        · rw [e]; omega
        · rw [e]; have := hb3 p (by omega); omega
      have hby : (sst K τ r o q).2.2 ≤ 8 := by omega
      have m1 : (sst K τ r o q).2.1 * had K o (q + 1) ≤ 786432 * 8 := Nat.mul_le_mul hup (by omega)
      have m2 : r q * (sst K τ r o q).2.2 ≤ 786432 * 8 := Nat.mul_le_mul (by omega) hby
      rw [if_neg (nI_ge (by omega) (by omega)), eaters_ok hN hK ho6 hea (by omega), bd, nI_l (by omega)]
      simp (disch := omega) only [q_l0]
      by_cases h0 : had K o (q + 1) = 0
      · rw [if_neg (by omega)] at hrec
        rw [if_pos h0, nI_1]
        exact hrec
      · rw [if_neg h0, rdL_n _ (by omega) (by decide), bd, r1, lN_mul, lN_mul]
        by_cases hlt : r q * (sst K τ r o q).2.2 < (sst K τ r o q).2.1 * had K o (q + 1)
        · rw [if_pos ⟨by omega, hlt⟩] at hrec
          rw [if_neg (fun z => by have := (lN_le (by omega) (by omega)).mp z; omega), bd, nI_1]
          exact hrec
        · rw [if_neg (fun z => hlt z.2)] at hrec
          rw [if_pos ((lN_le (by omega) (by omega)).mpr (by omega)), nI_1]
          exact hrec
theorem fs_71 (hN : 40000 ≤ N) (hK : K ≤ 8) (hP : P ≤ 6) (hW : ∀ a q, W a q ≤ 6) {ms mw : Nat → Int32} (hw4 : ∀ a q, a < 8 → q < 6 → mw (a * 6 + q) = nI (W a q)) {r o : Nat → Nat} {left : Nat → Int64} (hr : RsIs P r left) (ho : OpIs P K W r o) {ww v1 v3 v5 : Int64} {ate : Nat → Int64} (k57 : Int64 → (Nat → Int64) → (Nat → Int32) → (Nat → Int64) → Int64 → Option (Int64 × (Nat → Int64) × (Nat → Int32) × (Nat → Int64))) :
    ∀ (n a : Nat) (ea : Nat → Int32), a ≤ K → K - a < n → (∀ x, x < a → ea x = oI (o x)) → ∃ ea', f_X8_findShares_71 N (nI K) (nI P) ms mw k57 n ww ate ea left v1 v3 v5 (nI a) = f_X8_findShares_102 N (nI K) (nI P) ms mw k57 N ww ate ea' left v1 v3 v5 0 ∧ ∀ x, x < K → ea' x = oI (o x) := by
  intro n
  induction n with
  | zero => intro a ea h1 h2; omega
  | succ n ih =>
    intro a ea ha hn h
    rw [f_X8_findShares_71]
    by_cases hc : K ≤ a
    · have : a = K := by omega
      subst this
      rw [if_pos (nI_le (Nat.le_refl _) (by omega))]
      exact ⟨ea, rfl, h⟩
    · rw [if_neg (nI_ge (by omega) (by omega)), eatsOf_ok hN hP hW hw4 hr (by omega) (ho a (by omega)).1, bd, wrI_n _ _ (by omega) (by decide), bd, nI_1]
      refine ih (a + 1) _ (by omega) (by omega) (fun x hx => ?_)
      by_cases e : x = a
      · rw [e, pk_us]
      · rw [pk_un e]; exact h x (by omega)
end EAT2
