/-! worth, give, has, many, votes, part -/
section SIMPLE3
variable {N K P : Nat} {S : Nat → Nat} {W T : Nat → Nat → Nat}
theorem isM_nI {n a : Nat} (h : a < n) (hn : n < 2 ^ 31) : isM n (nI a) := isN_nI h hn
/-- a place or NONE is an option -/
theorem place_cases {n : Nat} (hn : n < 2 ^ 30) (x : Int32) : (∃ o, o ≤ n ∧ x = oI o ∧ (x = -1 ∨ isM n x)) ∨ (¬ x = -1 ∧ ¬ isM n x) := by
  by_cases h : x = -1
  · exact Or.inl ⟨0, Nat.zero_le _, by rw [h, oI_0], Or.inl h⟩
  · by_cases h2 : isM n x
    · obtain ⟨q, hq, rfl⟩ := isM_ex h2
      exact Or.inl ⟨q + 1, hq, by rw [oI_s], Or.inr h2⟩
    · exact Or.inr ⟨h, h2⟩
theorem X7_isPlaceOrNone_ok (hP : P ≤ 6) (x : Int32) : f_X7_isPlaceOrNone N (nI P) x = some (if x = -1 ∨ isM P x then 1 else 0) := by
  unfold f_X7_isPlaceOrNone
  by_cases h : x = -1
  · rw [if_pos h, if_pos (Or.inl h)]
  · rw [if_neg h, X0_isPlace_ok hP, bd]
    by_cases h2 : isM P x
    · rw [if_pos h2, if_neg one_ne, if_pos (Or.inr h2)]
    · rw [if_neg h2, if_pos rfl, if_neg (fun z => z.elim h h2)]
theorem oI_1 (o : Nat) : oI o + 1 = nI o := by
  cases o with
  | zero => decide
  | succ q => rw [oI_s, nI_1]
theorem call_worth (hG : GD K P S W T) {x y : Int32} : ∀ {ca cp ma mp : Int32} {cs cl ct cw ms mw mt : Nat → Int32}, SB K P S W T ca cp cs cl ct cw → RepM K P S W T ma mp ms mw mt →
    ∃ r, f_X7_worth N ca cp cw x y = some r ∧ f_X8_worth N ma mp mw x y = some r := by
  intro ca cp ma mp cs cl ct cw ms mw mt hB hM
  obtain ⟨⟨e1, e2, e3, e4, e5⟩, hl⟩ := hB
  obtain ⟨m1, m2, m3, m4, m5⟩ := hM
  have hP := hG.P6
  have hK := hG.K8
  subst e1; subst m1; subst e2; subst m2
  unfold f_X7_worth f_X8_worth
  rw [X0_isAsker_ok hK, X8_isAsker_ok hK, bd, bd]
  by_cases hx : isM K x
  · rw [if_pos hx, if_neg one_ne, if_neg one_ne, X7_isPlaceOrNone_ok hP, bd]
    obtain ⟨a, ha, rfl⟩ := isM_ex hx
    rcases place_cases (n := P) (by omega) y with ⟨o, ho, hyo, hy⟩ | ⟨h1, h2⟩
    · rw [if_pos hy, if_neg one_ne]
      have h8 : f_X8_worth_21 N (nI K) (nI P) mw (nI a) y = some (nI (wo W a o)) := by
        unfold f_X8_worth_21
        rw [hyo, oI_1, X8_worthOf_ok N hG.W6 m4 (by omega) (by omega), bd]
      have h7 : f_X0_worthOf N cw (nI a) y = some (nI (wo W a o)) := by rw [hyo]; exact X0_worthOf_ok N hG.W6 e4 (by omega) (by omega)
      rw [h7, bd, h8]
      refine ⟨_, rfl, ?_⟩
      rcases hy with hy | hy
      · rw [if_pos hy]
      · by_cases hn : y = -1
        · rw [if_pos hn]
        · rw [if_neg hn, X8_isPlace_ok hP, bd, if_pos hy, if_neg one_ne]
    · rw [if_neg (show ¬ (y = -1 ∨ isM P y) from fun z => z.elim h1 h2), if_pos rfl, if_neg h1, X8_isPlace_ok hP, bd, if_neg h2, if_pos rfl]
      exact ⟨_, rfl, rfl⟩
  · rw [if_neg hx, if_pos rfl, if_pos rfl]
    exact ⟨_, rfl, rfl⟩
theorem call_has (hG : GD K P S W T) {x y : Int32} : ∀ {ca cp ma mp : Int32} {cs cl ct cw ms mw mt : Nat → Int32}, SB K P S W T ca cp cs cl ct cw → RepM K P S W T ma mp ms mw mt →
    ∃ r, f_X7_has N ca ct x y = some r ∧ f_X8_has N ma mt x y = some r := by
  intro ca cp ma mp cs cl ct cw ms mw mt hB hM
  obtain ⟨⟨e1, e2, e3, e4, e5⟩, hl⟩ := hB
  obtain ⟨m1, m2, m3, m4, m5⟩ := hM
  have hK := hG.K8
  subst e1; subst m1
  unfold f_X7_has f_X8_has
  rw [X7_isTold_ok, X8_isTold_ok, bd, bd]
  by_cases hx : isM 4 x
  · rw [if_pos hx, if_neg one_ne, if_neg one_ne, X0_isAsker_ok hK, X8_isAsker_ok hK, bd, bd]
    by_cases hy : isM K y
    · rw [if_pos hy, if_neg one_ne, if_neg one_ne]
      obtain ⟨g, hg, rfl⟩ := isM_ex hx
      obtain ⟨a, ha, rfl⟩ := isM_ex hy
      simp (disch := omega) only [bd, rdI_n, wrI_n, rdL_n, wrL_n, ix6, ix6', ix7, ix7', ix8, ix8', nI_1, X0_toldOf_ok e5 hg (show a < 8 by omega), m5 g a hg (show a < 8 by omega)]
      exact ⟨_, rfl, rfl⟩
    · rw [if_neg hy, if_pos rfl, if_pos rfl]
      exact ⟨_, rfl, rfl⟩
  · rw [if_neg hx, if_pos rfl, if_pos rfl]
    exact ⟨_, rfl, rfl⟩
theorem call_part {x : Int32} {fa fb : Int64} : ∃ r, f_X7_part N fa fb x = some r ∧ f_X8_part N fa fb x = some r := by
  unfold f_X7_part f_X8_part f_X7_part_13
  by_cases h : x = 0
  · exact ⟨fa, by simp [h], by simp [h]⟩
  · by_cases h1 : x = 1
    · exact ⟨fb, by simp [h1], by simp [h1]⟩
    · exact ⟨-1, by simp [h, h1], by simp [h, h1]⟩
/-! many -/
def manyN (K : Nat) (w : Nat → Nat) (v : Nat) : Nat := fb_ct (fun a => decide (w a = v)) K
theorem X7_many_26_ok (hG : GD K P S W T) {ct cw : Nat → Int32} (e4 : ∀ a q, a < 8 → q < 6 → cw (a * 6 + q) = nI (W a q)) (e5 : ∀ g a, g < 4 → a < 8 → ct (g * 8 + a) = oI (T g a)) {g v : Nat} (hg : g < 4) (hv : v ≤ 7) :
    ∀ (n a : Nat), a ≤ K → K - a < n → f_X7_many_26 N (nI K) ct cw n (nI g) (nI v) (nI (manyN a (fun a => wo W a (T g a)) v)) (nI a) = some (nI (manyN K (fun a => wo W a (T g a)) v)) := by
  have hK := hG.K8
  intro n
  induction n with
  | zero => intro a h1 h2; omega
  | succ n ih =>
    intro a ha hn
    rw [f_X7_many_26]
    by_cases h : K ≤ a
    · have : a = K := by omega
      subst this
      simp (disch := omega) only [bd, rdI_n, wrI_n, rdL_n, wrL_n, ix6, ix6', ix7, ix7', ix8, ix8', nI_1, q_le, if_pos]
    · have h6 := hG.T6 g a
      have h8 := wo_le W hG.W6 a (T g a)
      have := ih (a + 1) (by omega) (by omega)
      have hs : manyN (a + 1) (fun a => wo W a (T g a)) v = manyN a (fun a => wo W a (T g a)) v + (if decide (wo W a (T g a) = v) then 1 else 0) := rfl
      rw [hs] at this
      simp (disch := omega) only [bd, rdI_n, wrI_n, rdL_n, wrL_n, ix6, ix6', ix7, ix7', ix8, ix8', nI_1, q_le, if_neg h, X0_toldWorth_ok hG.W6 e4 e5 hg (show a < 8 by omega) h6, q_eq]
      by_cases hq : wo W a (T g a) = v
      · rw [if_pos hq]; simpa [hq] using this
      · rw [if_neg hq]; simpa [hq] using this
theorem X8_many_25_ok (hG : GD K P S W T) {ct cw : Nat → Int32} (e4 : ∀ a q, a < 8 → q < 6 → cw (a * 6 + q) = nI (W a q)) (e5 : ∀ g a, g < 4 → a < 8 → ct (g * 8 + a) = nI (T g a)) {g v : Nat} (hg : g < 4) (hv : v ≤ 7) :
    ∀ (n a : Nat), a ≤ K → K - a < n → f_X8_many_25 N (nI K) ct cw n (nI g) (nI v) (nI (manyN a (fun a => wo W a (T g a)) v)) (nI a) = some (nI (manyN K (fun a => wo W a (T g a)) v)) := by
  have hK := hG.K8
  intro n
  induction n with
  | zero => intro a h1 h2; omega
  | succ n ih =>
    intro a ha hn
    rw [f_X8_many_25]
    by_cases h : K ≤ a
    · have : a = K := by omega
      subst this
      simp (disch := omega) only [bd, rdI_n, wrI_n, rdL_n, wrL_n, ix6, ix6', ix7, ix7', ix8, ix8', nI_1, q_le, if_pos]
    · have h6 := hG.T6 g a
      have h8 := wo_le W hG.W6 a (T g a)
      have := ih (a + 1) (by omega) (by omega)
      have hs : manyN (a + 1) (fun a => wo W a (T g a)) v = manyN a (fun a => wo W a (T g a)) v + (if decide (wo W a (T g a) = v) then 1 else 0) := rfl
      rw [hs] at this
      simp (disch := omega) only [bd, rdI_n, wrI_n, rdL_n, wrL_n, ix6, ix6', ix7, ix7', ix8, ix8', nI_1, q_le, if_neg h, e5 g a hg (show a < 8 by omega), X8_worthOf_ok N hG.W6 e4 (show a < 8 by omega) h6, q_eq, Int32.add_zero]
      by_cases hq : wo W a (T g a) = v
      · rw [if_pos hq]; simpa [hq] using this
      · rw [if_neg hq]; simpa [hq] using this
theorem call_many (hG : GD K P S W T) (hN : 40000 ≤ N) {x y : Int32} : ∀ {ca cp ma mp : Int32} {cs cl ct cw ms mw mt : Nat → Int32}, SB K P S W T ca cp cs cl ct cw → RepM K P S W T ma mp ms mw mt →
    ∃ r, f_X7_many N ca ct cw x y = some r ∧ f_X8_many N ma mt mw x y = some r := by
  intro ca cp ma mp cs cl ct cw ms mw mt hB hM
  obtain ⟨⟨e1, e2, e3, e4, e5⟩, hl⟩ := hB
  obtain ⟨m1, m2, m3, m4, m5⟩ := hM
  have hK := hG.K8
  subst e1; subst m1
  unfold f_X7_many f_X8_many
  rw [X7_isTold_ok, X8_isTold_ok, bd, bd]
  by_cases hx : isM 4 x
  · rw [if_pos hx, if_neg one_ne, if_neg one_ne, X8_in_ok, bd, ti1, ti7]
    simp only [Int32.lt_iff_toInt_lt, Int32.le_iff_toInt_le, ti1, ti7]
    by_cases hy : 1 ≤ y.toInt ∧ y.toInt ≤ 7
    · rw [if_neg (by omega), if_pos hy.2, if_pos hy, if_neg one_ne]
      obtain ⟨g, hg, rfl⟩ := isM_ex hx
      obtain ⟨v, hv, rfl⟩ := small_ex (x := y) (n := 7) (by omega) hy.2
      have a1 := X7_many_26_ok (N := N) hG e4 e5 hg hv N 0 (Nat.zero_le _) (by omega)
      have a2 := X8_many_25_ok (N := N) hG m4 m5 hg hv N 0 (Nat.zero_le _) (by omega)
      exact ⟨_, a1, a2⟩
    · rw [if_neg hy, if_pos rfl]
      refine ⟨_, ?_, rfl⟩
      by_cases h0 : y.toInt < 1
      · rw [if_pos h0]
      · rw [if_neg h0, if_neg (by omega)]
  · rw [if_neg hx, if_pos rfl, if_pos rfl]
    exact ⟨_, rfl, rfl⟩
/-! votes: how many prefer a row of options to a told giving, and the other way -/
def rise (K : Nat) (W : Nat → Nat → Nat) (t m : Nat → Nat) : Nat := fb_ct (fun a => decide (wo W a (t a) < wo W a (m a))) K
def RowIs (K : Nat) (t : Nat → Nat) (row : Nat → Int32) : Prop := ∀ a, a < K → row a = oI (t a)
theorem X7_copyTold_2_ok (hK : K ≤ 8) {ct : Nat → Int32} (e5 : ∀ g a, g < 4 → a < 8 → ct (g * 8 + a) = oI (T g a)) {g : Nat} (hg : g < 4) :
    ∀ (n a : Nat) (row : Nat → Int32), a ≤ K → K - a < n → RowIs a (T g) row → ∃ row', f_X7_copyTold_2 N (nI K) ct n row (nI g) (nI a) = some row' ∧ RowIs K (T g) row' := by
  intro n
  induction n with
  | zero => intro a row h1 h2; omega
  | succ n ih =>
    intro a row ha hn hr
    rw [f_X7_copyTold_2]
    by_cases h : K ≤ a
    · have : a = K := by omega
      subst this
      simp (disch := omega) only [bd, rdI_n, wrI_n, rdL_n, wrL_n, ix6, ix6', ix7, ix7', ix8, ix8', nI_1, q_le, if_pos]
      exact ⟨_, rfl, hr⟩
    · simp (disch := omega) only [bd, rdI_n, wrI_n, rdL_n, wrL_n, ix6, ix6', ix7, ix7', ix8, ix8', nI_1, q_le, if_neg h, X0_toldOf_ok e5 hg (show a < 8 by omega)]
      refine ih (a + 1) _ (by omega) (by omega) (fun b hb => ?_)
      unfold upd
      by_cases e : b = a
      · rw [if_pos e, e]
      · rw [if_neg e]; exact hr b (by omega)
theorem X7_copyTold_ok (hN : 40000 ≤ N) (hK : K ≤ 8) {ct : Nat → Int32} (e5 : ∀ g a, g < 4 → a < 8 → ct (g * 8 + a) = oI (T g a)) {g : Nat} (hg : g < 4) (row : Nat → Int32) : ∃ row', f_X7_copyTold N (nI K) ct row (nI g) = some row' ∧ RowIs K (T g) row' :=
  X7_copyTold_2_ok hK e5 hg N 0 row (Nat.zero_le _) (by omega) (fun _ h => absurd h (Nat.not_lt_zero _))
theorem X7_countRisers_4_ok (hG : GD K P S W T) {ct cw row : Nat → Int32} (e4 : ∀ a q, a < 8 → q < 6 → cw (a * 6 + q) = nI (W a q)) (e5 : ∀ g a, g < 4 → a < 8 → ct (g * 8 + a) = oI (T g a)) {t : Nat → Nat} (hr : RowIs K t row) (ht : ∀ a, t a ≤ 6) {g : Nat} (hg : g < 4) :
    ∀ (n a : Nat), a ≤ K → K - a < n → f_X7_countRisers_4 N (nI K) row ct cw n (nI g) (nI (rise a W t (T g))) (nI a) = some (nI (rise K W t (T g))) := by
  have hK := hG.K8
  intro n
  induction n with
  | zero => intro a h1 h2; omega
  | succ n ih =>
    intro a ha hn
    rw [f_X7_countRisers_4]
    by_cases h : K ≤ a
    · have : a = K := by omega
      subst this
      simp (disch := omega) only [bd, rdI_n, wrI_n, rdL_n, wrL_n, ix6, ix6', ix7, ix7', ix8, ix8', nI_1, q_le, if_pos]
    · have h6 := hG.T6 g a
      have h6t := ht a
      have h8 := wo_le W hG.W6 a (T g a)
      have h8t := wo_le W hG.W6 a (t a)
      have := ih (a + 1) (by omega) (by omega)
      have hs : rise (a + 1) W t (T g) = rise a W t (T g) + (if decide (wo W a (t a) < wo W a (T g a)) then 1 else 0) := rfl
      rw [hs] at this
      simp (disch := omega) only [bd, rdI_n, wrI_n, rdL_n, wrL_n, ix6, ix6', ix7, ix7', ix8, ix8', nI_1, q_le, if_neg h, hr a (show a < K by omega), X0_worthOf_ok N hG.W6 e4 (show a < 8 by omega) h6t, X0_toldWorth_ok hG.W6 e4 e5 hg (show a < 8 by omega) h6]
      by_cases hq : wo W a (t a) < wo W a (T g a)
      · rw [if_neg (by omega)]; simpa [hq] using this
      · rw [if_pos (by omega)]; simpa [hq] using this
theorem X7_countFallers_4_ok (hG : GD K P S W T) {ct cw row : Nat → Int32} (e4 : ∀ a q, a < 8 → q < 6 → cw (a * 6 + q) = nI (W a q)) (e5 : ∀ g a, g < 4 → a < 8 → ct (g * 8 + a) = oI (T g a)) {t : Nat → Nat} (hr : RowIs K t row) (ht : ∀ a, t a ≤ 6) {g : Nat} (hg : g < 4) :
    ∀ (n a : Nat), a ≤ K → K - a < n → f_X7_countFallers_4 N (nI K) row ct cw n (nI g) (nI (rise a W (T g) t)) (nI a) = some (nI (rise K W (T g) t)) := by
  have hK := hG.K8
  intro n
  induction n with
  | zero => intro a h1 h2; omega
  | succ n ih =>
    intro a ha hn
    rw [f_X7_countFallers_4]
    by_cases h : K ≤ a
    · have : a = K := by omega
      subst this
      simp (disch := omega) only [bd, rdI_n, wrI_n, rdL_n, wrL_n, ix6, ix6', ix7, ix7', ix8, ix8', nI_1, q_le, if_pos]
    · have h6 := hG.T6 g a
      have h6t := ht a
      have h8 := wo_le W hG.W6 a (T g a)
      have h8t := wo_le W hG.W6 a (t a)
      have := ih (a + 1) (by omega) (by omega)
      have hs : rise (a + 1) W (T g) t = rise a W (T g) t + (if decide (wo W a (T g a) < wo W a (t a)) then 1 else 0) := rfl
      rw [hs] at this
      simp (disch := omega) only [bd, rdI_n, wrI_n, rdL_n, wrL_n, ix6, ix6', ix7, ix7', ix8, ix8', nI_1, q_le, if_neg h, hr a (show a < K by omega), X0_worthOf_ok N hG.W6 e4 (show a < 8 by omega) h6t, X0_toldWorth_ok hG.W6 e4 e5 hg (show a < 8 by omega) h6]
      by_cases hq : wo W a (T g a) < wo W a (t a)
      · rw [if_neg (by omega)]; simpa [hq] using this
      · rw [if_pos (by omega)]; simpa [hq] using this
theorem X7_countRisers_ok (hN : 40000 ≤ N) (hG : GD K P S W T) {ct cw row : Nat → Int32} (e4 : ∀ a q, a < 8 → q < 6 → cw (a * 6 + q) = nI (W a q)) (e5 : ∀ g a, g < 4 → a < 8 → ct (g * 8 + a) = oI (T g a)) {t : Nat → Nat} (hr : RowIs K t row) (ht : ∀ a, t a ≤ 6) {g : Nat} (hg : g < 4) :
    f_X7_countRisers N (nI K) row ct cw (nI g) = some (nI (rise K W t (T g))) := by
  have := hG.K8
  exact X7_countRisers_4_ok hG e4 e5 hr ht hg N 0 (Nat.zero_le _) (by omega)
theorem X7_countFallers_ok (hN : 40000 ≤ N) (hG : GD K P S W T) {ct cw row : Nat → Int32} (e4 : ∀ a q, a < 8 → q < 6 → cw (a * 6 + q) = nI (W a q)) (e5 : ∀ g a, g < 4 → a < 8 → ct (g * 8 + a) = oI (T g a)) {t : Nat → Nat} (hr : RowIs K t row) (ht : ∀ a, t a ≤ 6) {g : Nat} (hg : g < 4) :
    f_X7_countFallers N (nI K) row ct cw (nI g) = some (nI (rise K W (T g) t)) := by
  have := hG.K8
  exact X7_countFallers_4_ok hG e4 e5 hr ht hg N 0 (Nat.zero_le _) (by omega)
theorem ti_m1 : (-1 : Int32) = zI (-1) := by decide
theorem X8_votes_22_ok (hG : GD K P S W T) {ct cw : Nat → Int32} (e4 : ∀ a q, a < 8 → q < 6 → cw (a * 6 + q) = nI (W a q)) (e5 : ∀ g a, g < 4 → a < 8 → ct (g * 8 + a) = nI (T g a)) {g h : Nat} (hg : g < 4) (hh : h < 4) :
    ∀ (n a : Nat), a ≤ K → K - a < n → f_X8_votes_22 N (nI K) ct cw n (nI g) (nI h) (nI (rise a W (T g) (T h)) - nI (rise a W (T h) (T g))) (nI a) = some (nI (rise K W (T g) (T h)) - nI (rise K W (T h) (T g))) := by
  have hK := hG.K8
  intro n
  induction n with
  | zero => intro a h1 h2; omega
  | succ n ih =>
    intro a ha hn
    rw [f_X8_votes_22]
    by_cases hc : K ≤ a
    · have : a = K := by omega
      subst this
      simp (disch := omega) only [bd, rdI_n, wrI_n, rdL_n, wrL_n, ix6, ix6', ix7, ix7', ix8, ix8', nI_1, q_le, if_pos]
    · have h6 := hG.T6 g a
      have h6t := hG.T6 h a
      have h8 := wo_le W hG.W6 a (T g a)
      have h8t := wo_le W hG.W6 a (T h a)
      have := ih (a + 1) (by omega) (by omega)
      have hs : rise (a + 1) W (T g) (T h) = rise a W (T g) (T h) + (if decide (wo W a (T g a) < wo W a (T h a)) then 1 else 0) := rfl
      have hs2 : rise (a + 1) W (T h) (T g) = rise a W (T h) (T g) + (if decide (wo W a (T h a) < wo W a (T g a)) then 1 else 0) := rfl
      rw [hs, hs2] at this
      simp (disch := omega) only [bd, rdI_n, wrI_n, rdL_n, wrL_n, ix6, ix6', ix7, ix7', ix8, ix8', nI_1, q_le, if_neg hc, e5 g a hg (show a < 8 by omega), e5 h a hh (show a < 8 by omega), X8_worthOf_ok N hG.W6 e4 (show a < 8 by omega) h6, X8_worthOf_ok N hG.W6 e4 (show a < 8 by omega) h6t]
      rcases Nat.lt_trichotomy (wo W a (T g a)) (wo W a (T h a)) with z | z | z
      · rw [if_neg (by omega)]
        rw [if_pos (decide_eq_true z), if_neg (by simp; omega), ← nI_1, Nat.add_zero] at this
        have e : ∀ u v : Int32, u - v + 1 = u + 1 - v := fun u v => by rw [Int32.sub_eq_add_neg, Int32.sub_eq_add_neg, Int32.add_assoc, Int32.add_assoc, Int32.add_comm 1]
        rw [e]
        exact this
      · rw [if_pos (by omega), if_pos (by omega), Int32.add_zero]
        rw [if_neg (by simp; omega), if_neg (by simp; omega)] at this
        exact this
      · rw [if_pos (by omega), if_neg (by omega)]
        rw [if_neg (by simp; omega), if_pos (decide_eq_true z), ← nI_1, Nat.add_zero] at this
        have e : ∀ u v : Int32, u - v + (-1) = u - (v + 1) := fun u v => by rw [Int32.sub_eq_add_neg, Int32.sub_eq_add_neg, Int32.neg_add, Int32.sub_eq_add_neg, Int32.add_assoc]
        rw [e]
        exact this
theorem call_votes (hG : GD K P S W T) (hN : 40000 ≤ N) {x y : Int32} : ∀ {ca cp ma mp : Int32} {cs cl ct cw ms mw mt row : Nat → Int32}, SB K P S W T ca cp cs cl ct cw → RepM K P S W T ma mp ms mw mt →
    ∃ r row', f_X7_votes N ca ct cw row x y = some (r, row') ∧ f_X8_votes N ma mt mw x y = some r := by
  intro ca cp ma mp cs cl ct cw ms mw mt row hB hM
  obtain ⟨⟨e1, e2, e3, e4, e5⟩, hl⟩ := hB
  obtain ⟨m1, m2, m3, m4, m5⟩ := hM
  have hK := hG.K8
  subst e1; subst m1
  unfold f_X7_votes f_X8_votes
  rw [X7_isTold_ok, X8_isTold_ok, bd, bd]
  by_cases hx : isM 4 x
  · rw [if_pos hx, if_neg one_ne, if_neg one_ne, X7_isTold_ok, X8_isTold_ok, bd, bd]
    by_cases hy : isM 4 y
    · rw [if_pos hy, if_neg one_ne, if_neg one_ne]
      obtain ⟨g, hg, rfl⟩ := isM_ex hx
      obtain ⟨h, hh, rfl⟩ := isM_ex hy
      obtain ⟨row', r1, r2⟩ := X7_copyTold_ok hN hK e5 hg row
      rw [r1, bd, X7_countRisers_ok hN hG e4 e5 r2 (hG.T6 g) hh, bd, X7_countFallers_ok hN hG e4 e5 r2 (hG.T6 g) hh, bd]
      have a2 := X8_votes_22_ok (N := N) hG m4 m5 hg hh N 0 (Nat.zero_le _) (by omega)
      have e0 : nI (rise 0 W (T g) (T h)) - nI (rise 0 W (T h) (T g)) = 0 := by
        show nI 0 - nI 0 = 0
        decide
      rw [e0] at a2
      exact ⟨_, _, rfl, a2⟩
    · rw [if_neg hy, if_pos rfl, if_pos rfl]
      exact ⟨_, _, rfl, rfl⟩
  · rw [if_neg hx, if_pos rfl, if_pos rfl]
    exact ⟨_, _, rfl, rfl⟩
end SIMPLE3
