/-! shares: who eats what, what is eaten up first -/
section EAT1
variable {N K P : Nat} {S : Nat → Nat} {W T : Nat → Nat → Nat}
theorem best_some (hP : P ≤ 6) (w : Nat → Nat) (av : Nat → Prop) : ∃ o, bestOf P w av o ∧ o ≤ P := by
  by_cases h : ∃ q, q < P ∧ 0 < w q ∧ av q
  · obtain ⟨q0, h0⟩ := h
    obtain ⟨k, ⟨q, hq, hk⟩, hmin⟩ := pk_least (fun k => ∃ q, (q < P ∧ 0 < w q ∧ av q) ∧ 8 * w q + q = k) ⟨_, q0, h0, rfl⟩
    refine ⟨q + 1, ⟨hq.1, hq.2.1, hq.2.2, fun p h1 h2 h3 => ?_⟩, hq.1⟩
    rcases Nat.lt_or_ge (8 * w p + p) (8 * w q + q) with z | z
    · exact absurd ⟨p, ⟨h1, h2, h3⟩, rfl⟩ (hmin _ (by omega))
    · exact z
  · exact ⟨0, fun q h1 h2 h3 => h ⟨q, h1, h2, h3⟩, Nat.zero_le _⟩
theorem bestOf_ext {w : Nat → Nat} {av av' : Nat → Prop} {o : Nat} (h : ∀ q, q < P → (av q ↔ av' q)) (hb : bestOf P w av o) : bestOf P w av' o := by
  cases o with
  | zero => exact fun q h1 h2 h3 => hb q h1 h2 ((h q h1).mpr h3)
  | succ q => exact ⟨hb.1, hb.2.1, (h q hb.1).mp hb.2.2.1, fun p h1 h2 h3 => hb.2.2.2 p h1 h2 ((h p h1).mpr h3)⟩
/-- what is left of places -/
def RsIs (P : Nat) (r : Nat → Nat) (rest : Nat → Int64) : Prop := ∀ q, q < P → rest q = lN (r q) ∧ r q < 2 ^ 31
theorem q_l0 {n : Nat} (h : n < 2 ^ 31) : (lN n ≤ 0) = (n = 0) := propext ((lN_le (b := 0) h (by decide)).trans ⟨fun z => by omega, fun z => by omega⟩)
theorem bl_2 (hP : P ≤ 6) {cl : Nat → Int32} {rest : Nat → Int64} {r : Nat → Nat} (hr : RsIs P r rest) {a : Nat} (ha : a < 8) {m o : Nat} (hm : m ≤ 6) (h1 : ∀ i, i < m → ∃ q, q < P ∧ cl (a * 6 + i) = nI q ∧ ¬ 0 < r q) (h2 : (m = 6 ∧ o = 0) ∨ (m < 6 ∧ cl (a * 6 + m) = oI o)) (ho : ∀ q, o = q + 1 → q < P ∧ 0 < r q) :
    ∀ (n i : Nat), i ≤ m → 6 - i < n → f_X1_bestLeft_2 N rest cl n (nI a) (nI i) = some (oI o) := by
  intro n
  induction n with
  | zero => intro i h1 h2; omega
  | succ n ih =>
    intro i hi hn
    rw [f_X1_bestLeft_2]
    unfold f_X0_likeAt
    rcases Nat.eq_or_lt_of_le hi with e | e
    · subst e
      rcases h2 with ⟨h6, h0⟩ | ⟨h6, hc⟩
      · rw [h6, h0, if_pos (show (6 : Int32) ≤ nI 6 from by decide), oI_0]
      · rw [if_neg (show ¬ (6 : Int32) ≤ nI i from nI_ge (b := 6) h6 (by decide)), ix6, rdI_n _ (by omega) (by decide), bd, bd, hc]
        cases o with
        | zero => rw [if_pos oI_0]
        | succ q =>
          obtain ⟨q1, q2⟩ := ho q rfl
          obtain ⟨r1, r2⟩ := hr q q1
          rw [oI_s, if_neg (nI_neg1 (by omega)), rdL_n _ (by omega) (by decide), bd, r1]
          simp (disch := omega) only [q_l0]
          rw [if_neg (by omega)]
    · obtain ⟨q, q1, q2, q3⟩ := h1 i e
      obtain ⟨r1, r2⟩ := hr q q1
      rw [if_neg (show ¬ (6 : Int32) ≤ nI i from nI_ge (b := 6) (by omega) (by decide)), ix6, rdI_n _ (by omega) (by decide), bd, bd, q2, if_neg (nI_neg1 (by omega)), rdL_n _ (by omega) (by decide), bd, r1]
      simp (disch := omega) only [q_l0]
      rw [if_pos (by omega), nI_1]
      exact ih (i + 1) (by omega) (by omega)
theorem bestLeft_ok (hN : 40000 ≤ N) (hP : P ≤ 6) (hW : ∀ a q, W a q ≤ 6) {cl : Nat → Int32} (hl : LikesOk P W cl) {rest : Nat → Int64} {r : Nat → Nat} (hr : RsIs P r rest) {a : Nat} (ha : a < 8) {o : Nat} (hb : bestOf P (W a) (fun q => 0 < r q) o) : f_X1_bestLeft N rest cl (nI a) = some (oI o) := by
  obtain ⟨m, hm, h1, h2⟩ := LK_walk (hW a) (hl a ha) (fun q => 0 < r q) hb hP
  exact bl_2 hP hr ha hm h1 h2 (fun q hq => by subst hq; exact ⟨hb.1, hb.2.2.1⟩) N 0 (Nat.zero_le _) (by omega)
theorem eo_4 (hP : P ≤ 6) (hW : ∀ a q, W a q ≤ 6) {mw : Nat → Int32} (hw4 : ∀ a q, a < 8 → q < 6 → mw (a * 6 + q) = nI (W a q)) {rest : Nat → Int64} {r : Nat → Nat} (hr : RsIs P r rest) {a : Nat} (ha : a < 8) :
    ∀ (n q o : Nat), q ≤ P → P - q < n → bestOf q (W a) (fun q => 0 < r q) o → ∃ o', bestOf P (W a) (fun q => 0 < r q) o' ∧ f_X8_eatsOf_4 N (nI P) rest mw n (nI a) (oI o) (nI q) = some (oI o') := by
  intro n
  induction n with
  | zero => intro q o h1 h2; omega
  | succ n ih =>
    intro q o hq hn hb
    rw [f_X8_eatsOf_4]
    by_cases hc : P ≤ q
    · have : q = P := by omega
      subst this
      rw [if_pos (nI_le (Nat.le_refl _) (by omega))]
      exact ⟨o, hb, rfl⟩
    · obtain ⟨r1, r2⟩ := hr q (by omega)
      have h6 := hW a q
      have hskip : (0 < W a q → 0 < r q → ∃ p, o = p + 1 ∧ W a p ≤ W a q) → bestOf (q + 1) (W a) (fun q => 0 < r q) o := by
        intro hx
        cases o with
        | zero =>
          intro p p1 p2 p3
          rcases Nat.lt_or_ge p q with z | z
          · exact hb p z p2 p3
          · rw [show p = q by omega] at p2 p3
            obtain ⟨x, hx, _⟩ := hx p2 p3
            cases hx
        | succ y =>
          refine ⟨by have := hb.1; omega, hb.2.1, hb.2.2.1, fun p p1 p2 p3 => ?_⟩
          rcases Nat.lt_or_ge p q with z | z
          · exact hb.2.2.2 p z p2 p3
          · rw [show p = q by omega] at p2 p3 ⊢
            obtain ⟨x, hx, hle⟩ := hx p2 p3
            have : y = x := by omega
            subst this
            have := hb.1
            omega
      unfold f_X8_eatsOf_41 f_X8_eatsOf_42
      rw [if_neg (nI_ge (by omega) (by omega)), rdL_n _ (by omega) (by decide), bd, r1]
      simp (disch := omega) only [q_l0]
      by_cases h0 : r q = 0
      · rw [if_pos h0, if_pos trivial, nI_1]
        exact ih (q + 1) o (by omega) (by omega) (hskip (fun _ z => by omega))
      · rw [if_neg h0, ix6', rdI_n _ (by omega) (by decide), bd, hw4 a q ha (by omega)]
        simp (disch := omega) only [q_le0]
        by_cases hw0 : W a q = 0
        · rw [if_pos hw0, if_pos trivial, nI_1]
          exact ih (q + 1) o (by omega) (by omega) (hskip (fun z => by omega))
        · rw [if_neg hw0, if_neg one_ne, nI_1]
          have htake : (∀ p, o = p + 1 → W a q < W a p) → bestOf (q + 1) (W a) (fun q => 0 < r q) (q + 1) := by
            intro hx
            refine ⟨by omega, by omega, by omega, fun p p1 p2 p3 => ?_⟩
            rcases Nat.lt_or_ge p q with z | z
            · cases o with
              | zero => exact absurd p3 (hb p z p2)
              | succ y =>
                have e1 := hb.2.2.2 p z p2 p3
                have e2 := hx y rfl
                have := hb.1
                omega
            · rw [show p = q by omega]; exact Nat.le_refl _
          cases o with
          | zero =>
            rw [oI_0, if_pos rfl, ← oI_s q]
            exact ih (q + 1) (q + 1) (by omega) (by omega) (htake (fun p hp => by omega))
          | succ y =>
            have hy := hb.1
            have h6y := hW a y
            rw [oI_s, if_neg (nI_neg1 (by omega)), bd, ix6', rdI_n _ (by omega) (by decide), bd, hw4 a y ha (by omega)]
            simp (disch := omega) only [q_le]
            by_cases hle : W a y ≤ W a q
            · rw [if_pos hle, ← oI_s y]
              exact ih (q + 1) (y + 1) (by omega) (by omega) (hskip (fun _ _ => ⟨y, rfl, hle⟩))
            · rw [if_neg hle, ← oI_s q]
              exact ih (q + 1) (q + 1) (by omega) (by omega) (htake (fun p hp => by rw [show p = y by omega]; omega))
theorem eatsOf_ok (hN : 40000 ≤ N) (hP : P ≤ 6) (hW : ∀ a q, W a q ≤ 6) {mw : Nat → Int32} (hw4 : ∀ a q, a < 8 → q < 6 → mw (a * 6 + q) = nI (W a q)) {rest : Nat → Int64} {r : Nat → Nat} (hr : RsIs P r rest) {a : Nat} (ha : a < 8) {o : Nat} (hb : bestOf P (W a) (fun q => 0 < r q) o) : f_X8_eatsOf N (nI P) rest mw (nI a) = some (oI o) := by
  obtain ⟨o', h1, h2⟩ := eo_4 (N := N) hP hW hw4 hr ha N 0 0 (Nat.zero_le _) (by omega) (fun q hq => absurd hq (Nat.not_lt_zero q))
  rw [bestOf_one hP hb h1]
  exact h2
/-- what all eat -/
def OpIs (P K : Nat) (W : Nat → Nat → Nat) (r o : Nat → Nat) : Prop := ∀ a, a < K → bestOf P (W a) (fun q => 0 < r q) (o a) ∧ o a ≤ P
theorem ops_some (hP : P ≤ 6) (K : Nat) (W : Nat → Nat → Nat) (r : Nat → Nat) : ∃ o, OpIs P K W r o := by
  obtain ⟨o, ho⟩ := pick (n := K) (R := fun a o => bestOf P (W a) (fun q => 0 < r q) o ∧ o ≤ P) 0 (fun a _ => best_some hP (W a) _)
  exact ⟨o, ho⟩
theorem sa_23 (hN : 40000 ≤ N) (hK : K ≤ 8) (hP : P ≤ 6) (hW : ∀ a q, W a q ≤ 6) {cl : Nat → Int32} (hl : LikesOk P W cl) {rest : Nat → Int64} {r o : Nat → Nat} (hr : RsIs P r rest) (ho : OpIs P K W r o) :
    ∀ (n a : Nat) (et ea : Nat → Int32), a ≤ K → K - a < n → (∀ q, q < 6 → et q = nI (had a o (q + 1))) → (∀ x, x < a → ea x = oI (o x)) → ∃ et' ea', f_X1_seatAll_23 N (nI K) rest cl n et ea (nI a) = some (et', ea') ∧ (∀ q, q < 6 → et' q = nI (had K o (q + 1))) ∧ ∀ x, x < K → ea' x = oI (o x) := by
  intro n
  induction n with
  | zero => intro a et ea h1 h2; omega
  | succ n ih =>
    intro a et ea ha hn h1 h2
    rw [f_X1_seatAll_23]
    by_cases hc : K ≤ a
    · have : a = K := by omega
      subst this
      rw [if_pos (nI_le (Nat.le_refl _) (by omega))]
      exact ⟨et, ea, rfl, h1, h2⟩
    · obtain ⟨b1, b2⟩ := ho a (by omega)
      have hea : ∀ x, x < a + 1 → upd ea a (oI (o a)) x = oI (o x) := by
        intro x hx
        by_cases e : x = a
        · rw [e, pk_us]
        · rw [pk_un e]; exact h2 x (by omega)
      have hs : ∀ q, had (a + 1) o (q + 1) = had a o (q + 1) + (if decide (o a = q + 1) = true then 1 else 0) := fun q => rfl
      rw [if_neg (nI_ge (by omega) (by omega)), bestLeft_ok hN hP hW hl hr (show a < 8 by omega) b1, bd, wrI_n _ _ (by omega) (by decide), bd]
      cases hoa : o a with
      | zero =>
        rw [hoa] at hea
        rw [oI_0, if_pos (show (-1 : Int32) < 0 from by decide), nI_1, ← oI_0]
        refine ih (a + 1) et _ (by omega) (by omega) (fun q hq => ?_) hea
        rw [hs, hoa, if_neg (by simp), Nat.add_zero]
        exact h1 q hq
      | succ p =>
        rw [hoa] at hea b2
        rw [oI_s] at hea ⊢
        rw [if_neg (nI_pos (by omega)), if_neg (show ¬ (6 : Int32) ≤ nI p from nI_ge (b := 6) (by omega) (by decide)), rdI_n _ (by omega) (by decide), bd, wrI_n _ _ (by omega) (by decide), bd, nI_1]
        refine ih (a + 1) _ _ (by omega) (by omega) (fun q hq => ?_) hea
        rw [hs, hoa]
        by_cases e : q = p
        · rw [e, pk_us, h1 p (by omega), nI_1, if_pos (by simp)]
        · rw [pk_un e, if_neg (by simp; omega), Nat.add_zero]
          exact h1 q hq
theorem sa_e2 (hN : 40000 ≤ N) (hK : K ≤ 8) (hP : P ≤ 6) (hW : ∀ a q, W a q ≤ 6) {cl : Nat → Int32} (hl : LikesOk P W cl) {rest : Nat → Int64} {r o : Nat → Nat} (hr : RsIs P r rest) (ho : OpIs P K W r o) {ea : Nat → Int32} :
    ∀ (n i : Nat) (et : Nat → Int32), i ≤ 6 → 6 - i < n → (∀ q, q < i → et q = nI 0) → ∃ et' ea', f_X1_seatAll_2 N (nI K) rest cl n et ea (nI i) = some (et', ea') ∧ (∀ q, q < 6 → et' q = nI (had K o (q + 1))) ∧ ∀ x, x < K → ea' x = oI (o x) := by
  intro n
  induction n with
  | zero => intro i et h1 h2; omega
  | succ n ih =>
    intro i et hi hn h
    rw [f_X1_seatAll_2]
    by_cases hc : 6 ≤ i
    · have : i = 6 := by omega
      subst this
      rw [if_pos (show (6 : Int32) ≤ nI 6 from by decide)]
      exact sa_23 hN hK hP hW hl hr ho N 0 et ea (Nat.zero_le _) (by omega) (fun q hq => h q hq) (fun x hx => absurd hx (Nat.not_lt_zero x))
    · rw [if_neg (show ¬ (6 : Int32) ≤ nI i from nI_ge (b := 6) (by omega) (by decide)), wrI_n _ _ (by omega) (by decide), bd, nI_1]
      refine ih (i + 1) _ (by omega) (by omega) (fun q hq => ?_)
      by_cases e : q = i
      · rw [e, pk_us]; rfl
      · rw [pk_un e]; exact h q (by omega)
theorem seatAll_ok (hN : 40000 ≤ N) (hK : K ≤ 8) (hP : P ≤ 6) (hW : ∀ a q, W a q ≤ 6) {cl : Nat → Int32} (hl : LikesOk P W cl) {rest : Nat → Int64} {r o : Nat → Nat} (hr : RsIs P r rest) (ho : OpIs P K W r o) (et ea : Nat → Int32) :
    ∃ et' ea', f_X1_seatAll N (nI K) rest cl et ea = some (et', ea') ∧ (∀ q, q < 6 → et' q = nI (had K o (q + 1))) ∧ ∀ x, x < K → ea' x = oI (o x) :=
  sa_e2 hN hK hP hW hl hr ho N 0 et (Nat.zero_le _) (by omega) (fun q hq => absurd hq (Nat.not_lt_zero q))
/-- what is eaten up first: 0 none, q + 1 a place; till, by -/
def sst (K τ : Nat) (r o : Nat → Nat) : Nat → Nat × Nat × Nat
  | 0 => (0, τ, 1)
  | q + 1 => if 0 < had K o (q + 1) ∧ r q * (sst K τ r o q).2.2 < (sst K τ r o q).2.1 * had K o (q + 1) then (q + 1, r q, had K o (q + 1)) else sst K τ r o q
theorem sst_ok (τ : Nat) (r o : Nat → Nat) : ∀ n, 1 ≤ (sst K τ r o n).2.2 ∧ (sst K τ r o n).2.2 ≤ max 1 K ∧ (sst K τ r o n).2.1 ≤ τ * (sst K τ r o n).2.2 ∧ (∀ q, q < n → 0 < had K o (q + 1) → (sst K τ r o n).2.1 * had K o (q + 1) ≤ r q * (sst K τ r o n).2.2) ∧
    (((sst K τ r o n).1 = 0 ∧ (sst K τ r o n).2.1 = τ ∧ (sst K τ r o n).2.2 = 1) ∨ ∃ q, q < n ∧ (sst K τ r o n).1 = q + 1 ∧ (sst K τ r o n).2.1 = r q ∧ (sst K τ r o n).2.2 = had K o (q + 1) ∧ 0 < had K o (q + 1))
  | 0 => ⟨Nat.le_refl _, by simp [sst]; omega, by simp [sst], fun q hq => absurd hq (Nat.not_lt_zero q), Or.inl ⟨rfl, rfl, rfl⟩⟩
  | n + 1 => by
    obtain ⟨h1, h2, h3, h4, h5⟩ := sst_ok τ r o n
    rw [sst]
    by_cases hc : 0 < had K o (n + 1) ∧ r n * (sst K τ r o n).2.2 < (sst K τ r o n).2.1 * had K o (n + 1)
    · rw [if_pos hc]
      have hle : had K o (n + 1) ≤ K := fb_ct_le _ _
      simp only
      generalize sst K τ r o n = z at *
      obtain ⟨s, u, b⟩ := z
      simp only at *
      refine ⟨hc.1, by omega, ?_, fun q hq hn => ?_, Or.inr ⟨n, by omega, rfl, rfl, rfl, hc.1⟩⟩
      · refine Nat.le_of_mul_le_mul_left (c := b) ?_ (by omega)
        have a1 : b * r n ≤ u * had K o (n + 1) := by rw [Nat.mul_comm]; omega
        have a2 : u * had K o (n + 1) ≤ τ * b * had K o (n + 1) := Nat.mul_le_mul_right _ h3
        have a3 : b * (τ * had K o (n + 1)) = τ * b * had K o (n + 1) := by rw [← Nat.mul_assoc, Nat.mul_comm b τ]
        omega
      · rcases Nat.lt_or_ge q n with y | y
        · refine Nat.le_of_mul_le_mul_left (c := b) ?_ (by omega)
          have a0 := h4 q y hn
          have a1 : r n * b * had K o (q + 1) ≤ u * had K o (n + 1) * had K o (q + 1) := Nat.mul_le_mul_right _ (by omega)
          have a2 : u * had K o (q + 1) * had K o (n + 1) ≤ r q * b * had K o (n + 1) := Nat.mul_le_mul_right _ a0
          have e1 : b * (r n * had K o (q + 1)) = r n * b * had K o (q + 1) := by rw [← Nat.mul_assoc, Nat.mul_comm b]
          have e2 : b * (r q * had K o (n + 1)) = r q * b * had K o (n + 1) := by rw [← Nat.mul_assoc, Nat.mul_comm b]
          have e3 : u * had K o (n + 1) * had K o (q + 1) = u * had K o (q + 1) * had K o (n + 1) := by rw [Nat.mul_assoc, Nat.mul_comm (had K o (n + 1)), ← Nat.mul_assoc]
          omega
        · rw [show q = n by omega]; exact Nat.le_refl _
    · rw [if_neg hc]
      refine ⟨h1, h2, h3, fun q hq hn => ?_, ?_⟩
      · rcases Nat.lt_or_ge q n with y | y
        · exact h4 q y hn
        · rw [show q = n by omega] at hn ⊢
          exact Nat.le_of_not_lt (fun z => hc ⟨hn, z⟩)
      · rcases h5 with h5 | ⟨q, q1, q2⟩
        · exact Or.inl h5
        · exact Or.inr ⟨q, by omega, q2⟩
end EAT1
