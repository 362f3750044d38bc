/-! calls that need no search: asker, place, seats, wish, worth, give, has, many, votes, part, count, digest -/
section SIMPLE
variable {N K P : Nat} {S : Nat → Nat} {W T : Nat → Nat → Nat}
def GD (K P : Nat) (S : Nat → Nat) (W T : Nat → Nat → Nat) : Prop := Good K P S W T ∧ ∀ g a, 4 ≤ g → T g a = 0
theorem GD.K8 (h : GD K P S W T) : K ≤ 8 := h.1.1
theorem GD.P6 (h : GD K P S W T) : P ≤ 6 := h.1.2.1
theorem GD.S3 (h : GD K P S W T) (q : Nat) : S q ≤ 3 := by
  rcases Nat.lt_or_ge q P with z | z
  · exact (h.1.2.2.1 q z).2
  · rw [h.1.2.2.2.1 q z]; decide
theorem GD.S1 (h : GD K P S W T) {q : Nat} (hq : q < P) : 1 ≤ S q := (h.1.2.2.1 q hq).1
theorem GD.S0 (h : GD K P S W T) {q : Nat} (hq : P ≤ q) : S q = 0 := h.1.2.2.2.1 q hq
theorem GD.W6 (h : GD K P S W T) : ∀ a q, W a q ≤ 6 := h.1.2.2.2.2.1
theorem GD.WK (h : GD K P S W T) : ∀ a q, K ≤ a → W a q = 0 := h.1.2.2.2.2.2.1
theorem GD.WP (h : GD K P S W T) : ∀ a q, P ≤ q → W a q = 0 := h.1.2.2.2.2.2.2.1
theorem GD.TP (h : GD K P S W T) : ∀ g a, T g a ≤ P := h.1.2.2.2.2.2.2.2.1
theorem GD.T6 (h : GD K P S W T) : ∀ g a, T g a ≤ 6 := fun g a => Nat.le_trans (h.TP g a) h.P6
theorem GD.TK (h : GD K P S W T) : ∀ g a, K ≤ a → T g a = 0 := h.1.2.2.2.2.2.2.2.2.1
theorem GD.TW (h : GD K P S W T) : ∀ g a q, T g a = q + 1 → 0 < W a q := h.1.2.2.2.2.2.2.2.2.2.1
theorem GD.TS (h : GD K P S W T) : ∀ g q, q < P → had K (T g) (q + 1) ≤ S q := h.1.2.2.2.2.2.2.2.2.2.2
theorem GD.T4 (h : GD K P S W T) : ∀ g a, 4 ≤ g → T g a = 0 := h.2
/-- both sides' cells tell the same state -/
def SB (K P : Nat) (S : Nat → Nat) (W T : Nat → Nat → Nat) (askers places : Int32) (seats likes told wishes : Nat → Int32) : Prop := RepB K P S W T askers places seats wishes told ∧ LikesOk P W likes
theorem call_asker {age likes : Int32 × (Nat → Int32)} (hG : GD K P S W T) : ∀ {ca cp ma mp cage : Int32} {cs cl ct cw ms mw mt : Nat → Int32}, SB K P S W T ca cp cs cl ct cw → RepM K P S W T ma mp ms mw mt →
    ∃ r K' ca' ma' b, K' ≤ K + 1 ∧ f_X7_asker N ca cage = some (r, ca', cage + b) ∧ f_X8_asker N ma = some (r, ma') ∧ GD K' P S W T ∧ SB K' P S W T ca' cp cs cl ct cw ∧ RepM K' P S W T ma' mp ms mw mt ∧ (b = 1 ∨ b = 0 ∧ K' = K) := by
  intro ca cp ma mp cage cs cl ct cw ms mw mt hB hM
  obtain ⟨⟨e1, e2, e3, e4, e5⟩, hl⟩ := hB
  obtain ⟨m1, m2, m3, m4, m5⟩ := hM
  have hK := hG.K8
  subst e1; subst m1
  unfold f_X7_asker f_X8_asker f_X0_addAsker
  by_cases h : K = 8
  · subst h
    rw [if_neg (by decide), if_pos (by decide)]
    exact ⟨_, 8, _, _, 0, by omega, by rw [Int32.add_zero], rfl, hG, ⟨⟨rfl, e2, e3, e4, e5⟩, hl⟩, ⟨rfl, m2, m3, m4, m5⟩, Or.inr ⟨rfl, rfl⟩⟩
  · rw [if_pos (show nI K < 8 from nI_lt (b := 8) (by omega) (by decide)), if_neg (show ¬ nI K = 8 from nI_ne (b := 8) (by omega) (by decide) h), bd, nI_1, nI_pred]
    refine ⟨_, K + 1, _, _, 1, by omega, rfl, rfl, ⟨⟨by omega, hG.P6, hG.1.2.2.1, hG.1.2.2.2.1, hG.W6, fun a q ha => hG.WK a q (by omega), hG.WP, hG.TP, fun g a ha => hG.TK g a (by omega), hG.TW, fun g q hq => ?_⟩, hG.T4⟩, ⟨⟨rfl, e2, e3, e4, e5⟩, hl⟩, ⟨rfl, m2, m3, m4, m5⟩, Or.inl rfl⟩
    have := hG.TS g q hq
    unfold had at *
    rw [fb_ct_succ, hG.TK g K (Nat.le_refl _)]
    simpa using this
theorem X7_isSeats_ok (x : Int32) : f_X7_isSeats N x = some (if 1 ≤ x.toInt ∧ x.toInt ≤ 3 then 1 else 0) := by
  unfold f_X7_isSeats
  simp only [Int32.lt_iff_toInt_lt, ti1, ti3]
  by_cases h1 : x.toInt < 1
  · rw [if_pos h1, if_neg (by omega)]
  · rw [if_neg h1]
    by_cases h3 : 3 < x.toInt
    · rw [if_pos h3, if_neg (by omega)]
    · rw [if_neg h3, if_pos (by omega)]
theorem X8_in_ok (x a b : Int32) : f_X8_in N x a b = some (if a.toInt ≤ x.toInt ∧ x.toInt ≤ b.toInt then 1 else 0) := by
  by_cases h : a.toInt ≤ x.toInt ∧ x.toInt ≤ b.toInt
  · rw [X8_in_yes N h, if_pos h]
  · rw [X8_in_no N h, if_neg h]
abbrev isM (n : Nat) (x : Int32) : Prop := 0 ≤ x.toInt ∧ x.toInt < n
theorem X7_isTold_ok (x : Int32) : f_X7_isTold N x = some (if isM 4 x then 1 else 0) := by
  unfold f_X7_isTold
  simp only [Int32.lt_iff_toInt_lt, Int32.le_iff_toInt_le, ti0, ti4]
  by_cases h1 : x.toInt < 0
  · rw [if_pos h1, if_neg (by omega)]
  · rw [if_neg h1]
    by_cases h3 : 4 ≤ x.toInt
    · rw [if_pos h3, if_neg (by omega)]
    · rw [if_neg h3, if_pos (by omega)]
theorem X8_isTold_ok (x : Int32) : f_X8_isTold N x = some (if isM 4 x then 1 else 0) := by
  by_cases h : isM 4 x
  · rw [X8_isTold_yes N h, if_pos h]
  · rw [X8_isTold_no N h, if_neg h]
theorem X0_isAsker_ok (hK : K ≤ 8) (x : Int32) : f_X0_isAsker N (nI K) x = some (if isM K x then 1 else 0) := by
  by_cases h : isM K x
  · rw [X0_isAsker_yes N hK h, if_pos h]
  · rw [X0_isAsker_no N hK h, if_neg h]
theorem X8_isAsker_ok (hK : K ≤ 8) (x : Int32) : f_X8_isAsker N (nI K) x = some (if isM K x then 1 else 0) := by
  by_cases h : isM K x
  · rw [X8_isAsker_yes N hK h, if_pos h]
  · rw [X8_isAsker_no N hK h, if_neg h]
theorem X0_isPlace_ok (hP : P ≤ 6) (x : Int32) : f_X0_isPlace N (nI P) x = some (if isM P x then 1 else 0) := by
  by_cases h : isM P x
  · rw [X0_isPlace_yes N hP h, if_pos h]
  · rw [X0_isPlace_no N hP h, if_neg h]
theorem X8_isPlace_ok (hP : P ≤ 6) (x : Int32) : f_X8_isPlace N (nI P) x = some (if isM P x then 1 else 0) := by
  by_cases h : isM P x
  · rw [X8_isPlace_yes N hP h, if_pos h]
  · rw [X8_isPlace_no N hP h, if_neg h]
theorem one_ne : ¬ (1 : Int32) = 0 := by decide
theorem small_ex {x : Int32} {n : Nat} (h1 : 0 ≤ x.toInt) (h2 : x.toInt ≤ n) : ∃ v : Nat, v ≤ n ∧ x = nI v := by
  have hr := (fb_rng x).2
  refine ⟨x.toInt.toNat, by omega, ?_⟩
  rw [← Int32.toInt_inj, nI_toInt (by omega)]
  omega
def upS (S : Nat → Nat) (p v : Nat) : Nat → Nat := fun q => if q = p then v else S q
theorem repS {seats : Nat → Int32} (h : ∀ q, q < 6 → seats q = nI (S q)) (p v : Nat) : ∀ q, q < 6 → upd seats p (nI v) q = nI (upS S p v q) := by
  intro q hq
  unfold upd upS
  split
  · rfl
  · exact h q hq
theorem call_place (hG : GD K P S W T) {x : Int32} : ∀ {ca cp ma mp cage : Int32} {cs cl ct cw ms mw mt : Nat → Int32}, SB K P S W T ca cp cs cl ct cw → RepM K P S W T ma mp ms mw mt →
    ∃ r P' S' cp' mp' cs' ms' b, f_X7_place N cp cage cs x = some (r, cp', cage + b, cs') ∧ f_X8_place N mp ms x = some (r, mp', ms') ∧ GD K P' S' W T ∧ SB K P' S' W T ca cp' cs' cl ct cw ∧ RepM K P' S' W T ma mp' ms' mw mt ∧ (b = 1 ∨ b = 0 ∧ P' = P ∧ S' = S) := by
  intro ca cp ma mp cage cs cl ct cw ms mw mt hB hM
  obtain ⟨⟨e1, e2, e3, e4, e5⟩, hl⟩ := hB
  obtain ⟨m1, m2, m3, m4, m5⟩ := hM
  have hP := hG.P6
  subst e2; subst m2
  unfold f_X7_place f_X8_place f_X0_addPlace
  rw [X7_isSeats_ok, X8_in_ok, bd, bd, ti1, ti3]
  by_cases hx : 1 ≤ x.toInt ∧ x.toInt ≤ 3
  · rw [if_pos hx, if_neg one_ne, if_neg one_ne]
    by_cases h : P = 6
    · subst h
      rw [if_neg (by decide), if_pos (by decide)]
      exact ⟨_, 6, S, _, _, _, _, 0, by rw [Int32.add_zero], rfl, hG, ⟨⟨e1, rfl, e3, e4, e5⟩, hl⟩, ⟨m1, rfl, m3, m4, m5⟩, Or.inr ⟨rfl, rfl, rfl⟩⟩
    · obtain ⟨v, hv, rfl⟩ := small_ex (x := x) (n := 3) (by omega) hx.2
      have hv1 : 1 ≤ v := by
        have := hx.1
        rw [nI_toInt (by omega)] at this; omega
      rw [if_pos (show nI P < 6 from nI_lt (b := 6) (by omega) (by decide)), if_neg (show ¬ nI P = 6 from nI_ne (b := 6) (by omega) (by decide) h), wrI_n _ _ (by omega) (by decide), wrI_n _ _ (by omega) (by decide), bd, bd, bd, nI_1, nI_pred]
      have h0 : ∀ g q, had K (T g) (q + 1) ≤ upS S P v q ∨ q < P := by
        intro g q
        rcases Nat.lt_or_ge q P with z | z
        · exact Or.inr z
        · refine Or.inl ?_
          have : had K (T g) (q + 1) = 0 := fb_ct_zero.mpr (fun a ha => by
            have := hG.TP g a
            simp only [decide_eq_false_iff_not]; omega)
          omega
      refine ⟨_, P + 1, upS S P v, _, _, _, _, 1, rfl, rfl, ⟨⟨hG.K8, by omega, fun q hq => ?_, fun q hq => ?_, hG.W6, hG.WK, fun a q hq => hG.WP a q (by omega), fun g a => Nat.le_succ_of_le (hG.TP g a), hG.TK, hG.TW, fun g q hq => ?_⟩, hG.T4⟩,
        ⟨⟨e1, rfl, repS e3 P v, e4, e5⟩, fun a ha => LK_cong (hl a ha) (fun _ => rfl) (fun q hq => hG.WP a q hq) (by omega)⟩, ⟨m1, rfl, repS m3 P v, m4, m5⟩, Or.inl rfl⟩
      · unfold upS
        split
        · omega
        · exact hG.1.2.2.1 q (by omega)
      · unfold upS
        rw [if_neg (by omega)]
        exact hG.S0 (by omega)
      · rcases h0 g q with z | z
        · exact z
        · unfold upS
          rw [if_neg (by omega)]
          exact hG.TS g q z
  · rw [if_neg hx, if_pos rfl, if_pos rfl]
    exact ⟨_, P, S, _, _, _, _, 0, by rw [Int32.add_zero], rfl, hG, ⟨⟨e1, rfl, e3, e4, e5⟩, hl⟩, ⟨m1, rfl, m3, m4, m5⟩, Or.inr ⟨rfl, rfl, rfl⟩⟩
theorem had_X (t : Nat → Nat) (o : Nat) : hadX K t o K = had K t o := by
  unfold hadX had
  refine fb_ct_cong (fun a ha => ?_)
  rw [decide_eq_false (show ¬ a = K by omega)]
  simp
theorem hadX_9 (t : Nat → Nat) (o : Nat) (hK : K ≤ 8) : hadX K t o 9 = had K t o := by
  unfold hadX had
  refine fb_ct_cong (fun a ha => ?_)
  rw [decide_eq_false (show ¬ a = 9 by omega)]
  simp
theorem hadX_one (t : Nat → Nat) (o : Nat) {x : Nat} (hx : x < K) : hadX K t o x + (if t x = o then 1 else 0) = had K t o := by
  have h := fb_ct_upd (fun a => decide (t a = o)) false hx
  unfold hadX had
  rw [show (fun a => decide (t a = o) && !decide (a = x)) = (fun k => if k = x then false else decide (t k = o)) from funext (fun a => by by_cases e : a = x <;> simp [e])]
  simp only [decide_eq_true_eq] at h
  simpa using h
theorem X0_holders_ok {told : Nat → Int32} (ht : ∀ g a, g < 4 → a < 8 → told (g * 8 + a) = oI (T g a)) (hT : ∀ g a, T g a ≤ 6) (hK : K ≤ 8) (hN : 40000 ≤ N) {g q : Nat} (hg : g < 4) (hq : q < 6) {x : Nat} {u : Int32} (hu : ∀ a, a < 8 → (nI a = u) = (a = x)) :
    f_X0_holders N (nI K) told (nI g) (nI q) u = some (nI (hadX K (T g) (q + 1) x)) := by
  unfold f_X0_holders
  exact X0_holders_6 ht hT hK hg hq hu N 0 (Nat.zero_le _) (by omega)
theorem X8_had_5 {told : Nat → Int32} (ht : ∀ g a, g < 4 → a < 8 → told (g * 8 + a) = nI (T g a)) (hT : ∀ g a, T g a ≤ 6) (hK : K ≤ 8) {g q : Nat} (hg : g < 4) (hq : q < 6) :
    ∀ (n a : Nat), a ≤ K → K - a < n → f_X8_had_5 N (nI K) told n (nI g) (nI q) (nI (had a (T g) (q + 1))) (nI a) = some (nI (had K (T g) (q + 1))) := by
  intro n
  induction n with
  | zero => intro a h1 h2; omega
  | succ n ih =>
    intro a ha hn
    rw [f_X8_had_5]
    by_cases h : K ≤ a
    · have : a = K := by omega
      subst this
      simp (disch := omega) only [bd, rdI_n, wrI_n, rdL_n, wrL_n, ix6, ix6', ix7, ix7', ix8, ix8', nI_1, q_le, if_pos]
    · have h6 := hT g a
      have hs : had (a + 1) (T g) (q + 1) = had a (T g) (q + 1) + (if decide (T g a = q + 1) then 1 else 0) := rfl
      have := ih (a + 1) (by omega) (by omega)
      rw [hs] at this
      simp (disch := omega) only [bd, rdI_n, wrI_n, rdL_n, wrL_n, ix6, ix6', ix7, ix7', ix8, ix8', nI_1, q_le, if_neg h, ht g a hg (show a < 8 by omega), q_eq, Int32.add_zero]
      by_cases hq2 : T g a = q + 1
      · rw [if_pos hq2]
        simpa [hq2] using this
      · rw [if_neg hq2]
        simpa [hq2] using this
theorem X8_had_ok {told : Nat → Int32} (ht : ∀ g a, g < 4 → a < 8 → told (g * 8 + a) = nI (T g a)) (hT : ∀ g a, T g a ≤ 6) (hK : K ≤ 8) (hN : 40000 ≤ N) {g q : Nat} (hg : g < 4) (hq : q < 6) : f_X8_had N (nI K) told (nI g) (nI q) = some (nI (had K (T g) (q + 1))) := by
  unfold f_X8_had
  exact X8_had_5 ht hT hK hg hq N 0 (Nat.zero_le _) (by omega)
end SIMPLE
