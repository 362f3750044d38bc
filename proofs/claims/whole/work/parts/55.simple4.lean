/-! give, count, digest; seats as bits; first worth -/
section SIMPLE4
variable {N K P : Nat} {S : Nat → Nat} {W T : Nat → Nat → Nat}
def upT (T : Nat → Nat → Nat) (g a o : Nat) : Nat → Nat → Nat := fun g' a' => if g' = g ∧ a' = a then o else T g' a'
theorem GD_tell (hG : GD K P S W T) {g a o : Nat} (hg : g < 4) (ha : a < K) (ho : o ≤ P) (hw : ∀ q, o = q + 1 → 0 < W a q ∧ hadX K (T g) (q + 1) a < S q) : GD K P S W (upT T g a o) := by
  refine ⟨⟨hG.K8, hG.P6, hG.1.2.2.1, hG.1.2.2.2.1, hG.W6, hG.WK, hG.WP, fun g' a' => ?_, fun g' a' h => ?_, fun g' a' q h => ?_, fun g' q hq => ?_⟩, fun g' a' h => ?_⟩
  · unfold upT; split
    · exact ho
    · exact hG.TP g' a'
  · unfold upT; rw [if_neg (by omega)]; exact hG.TK g' a' h
  · unfold upT at h
    split at h
    · rename_i e; rw [e.2]; exact (hw q h).1
    · exact hG.TW g' a' q h
  · by_cases e : g' = g
    · subst e
      have h1 := hadX_one (K := K) (upT T g' a o g') (q + 1) ha
      have h2 : hadX K (upT T g' a o g') (q + 1) a = hadX K (T g') (q + 1) a := by
        unfold hadX
        refine fb_ct_cong (fun k hk => ?_)
        unfold upT
        by_cases e : k = a
        · simp [e]
        · simp [e]
      have h3 : upT T g' a o g' a = o := by unfold upT; rw [if_pos ⟨rfl, rfl⟩]
      rw [h2, h3] at h1
      by_cases ho2 : o = q + 1
      · rw [if_pos ho2] at h1
        have := (hw q ho2).2
        omega
      · rw [if_neg ho2] at h1
        have h4 := hadX_one (K := K) (T g') (q + 1) ha
        have := hG.TS g' q hq
        split at h4 <;> omega
    · have : upT T g a o g' = T g' := funext fun a' => by unfold upT; rw [if_neg (fun z => e z.1)]
      rw [this]; exact hG.TS g' q hq
  · unfold upT; rw [if_neg (by omega)]; exact hG.T4 g' a' h
theorem repT {told : Nat → Int32} (e5 : ∀ g a, g < 4 → a < 8 → told (g * 8 + a) = oI (T g a)) {g a o : Nat} (hg : g < 4) (ha : a < 8) : ∀ g' a', g' < 4 → a' < 8 → upd told (g * 8 + a) (oI o) (g' * 8 + a') = oI (upT T g a o g' a') := by
  intro g' a' h1 h2
  unfold upd upT
  by_cases e : g' = g ∧ a' = a
  · rw [if_pos e, if_pos (by rw [e.1, e.2])]
  · rw [if_neg e, if_neg (by omega)]; exact e5 g' a' h1 h2
theorem repTM {told : Nat → Int32} (e5 : ∀ g a, g < 4 → a < 8 → told (g * 8 + a) = nI (T g a)) {g a o : Nat} (hg : g < 4) (ha : a < 8) : ∀ g' a', g' < 4 → a' < 8 → upd told (g * 8 + a) (nI o) (g' * 8 + a') = nI (upT T g a o g' a') := by
  intro g' a' h1 h2
  unfold upd upT
  by_cases e : g' = g ∧ a' = a
  · rw [if_pos e, if_pos (by rw [e.1, e.2])]
  · rw [if_neg e, if_neg (by omega)]; exact e5 g' a' h1 h2
theorem X0_tell_ok (told : Nat → Int32) {g a : Nat} (hg : g < 4) (ha : a < 8) (x : Int32) : f_X0_tell N told (nI g) (nI a) x = some (upd told (g * 8 + a) x) := by
  unfold f_X0_tell
  simp (disch := omega) only [bd, rdI_n, wrI_n, rdL_n, wrL_n, ix6, ix6', ix7, ix7', ix8, ix8', nI_1]
theorem call_give (hG : GD K P S W T) (hN : 40000 ≤ N) {x y z : Int32} : ∀ {ca cp ma mp : Int32} {cs cl ct cw ms mw mt : Nat → Int32}, SB K P S W T ca cp cs cl ct cw → RepM K P S W T ma mp ms mw mt →
    ∃ r T' ct' mt', f_X7_give N ca cp cs cw ct x y z = some (r, ct') ∧ f_X8_give N ma mp ms mw mt x y z = some (r, mt') ∧ GD K P S W T' ∧ SB K P S W T' ca cp cs cl ct' cw ∧ RepM K P S W T' ma mp ms mw mt' := by
  intro ca cp ma mp cs cl ct cw ms mw mt hB hM
  have hB0 := hB
  have hM0 := hM
  obtain ⟨⟨e1, e2, e3, e4, e5⟩, hl⟩ := hB
  obtain ⟨m1, m2, m3, m4, m5⟩ := hM
  have hP := hG.P6
  have hK := hG.K8
  subst e1; subst m1; subst e2; subst m2
  unfold f_X7_give f_X8_give
  rw [X7_isTold_ok, X8_isTold_ok, bd, bd]
  by_cases hx : isM 4 x
  · rw [if_pos hx, if_neg one_ne, if_neg one_ne, X0_isAsker_ok hK, X8_isAsker_ok hK, bd, bd]
    by_cases hy : isM K y
    · rw [if_pos hy, if_neg one_ne, if_neg one_ne, X7_isPlaceOrNone_ok hP, bd]
      obtain ⟨g, hg, rfl⟩ := isM_ex hx
      obtain ⟨a, ha, rfl⟩ := isM_ex hy
      have hT6 := hG.T6 g a
      rcases place_cases (n := P) (by omega) z with ⟨o, ho, hzo, hz⟩ | ⟨h1, h2⟩
      · rw [if_pos hz, if_neg one_ne]
        have h8 : (if z = -1 then f_X8_give_31 N (nI K) (nI P) ms mw mt (nI g) (nI a) z else (f_X8_isPlace N (nI P) z).bind fun r8 => if r8 = 0 then some (-2, mt) else f_X8_give_31 N (nI K) (nI P) ms mw mt (nI g) (nI a) z) = f_X8_give_31 N (nI K) (nI P) ms mw mt (nI g) (nI a) z := by
          by_cases hn : z = -1
          · rw [if_pos hn]
          · rw [if_neg hn, X8_isPlace_ok hP, bd, if_pos (hz.resolve_left hn), if_neg one_ne]
        rw [h8]
        clear h8
        unfold f_X8_give_31
        subst hzo
        rw [ix8', rdI_n _ (by omega) (by decide), bd, m5 g a hg (by omega), oI_1]
        have h31 : (if nI (T g a) = nI o then f_X8_give_53 N (nI K) (nI P) ms mw mt (nI g) (nI a) (oI o) 1 else f_X8_give_53 N (nI K) (nI P) ms mw mt (nI g) (nI a) (oI o) 0) = f_X8_give_53 N (nI K) (nI P) ms mw mt (nI g) (nI a) (oI o) (nI (if T g a = o then 1 else 0)) := by
          by_cases e : T g a = o
          · rw [if_pos (by rw [e]), if_pos e]; rfl
          · rw [if_neg (nI_ne (by omega) (by omega) e), if_neg e]; rfl
        rw [h31]
        clear h31
        unfold f_X8_give_53 f_X7_give_47 f_X8_give_95
        cases o with
        | zero =>
          rw [oI_0, if_pos rfl, if_pos rfl, X0_tell_ok _ hg (by omega), bd, ix8', wrI_n _ _ (by omega) (by decide), bd]
          exact ⟨_, upT T g a 0, _, _, rfl, rfl, GD_tell hG hg ha (Nat.zero_le _) (fun q h => by omega), ⟨⟨rfl, rfl, e3, e4, repT e5 (o := 0) hg (by omega)⟩, hl⟩, ⟨rfl, rfl, m3, m4, repTM m5 (o := 0) hg (by omega)⟩⟩
        | succ q =>
          have hW := hG.W6 a q
          rw [oI_s, if_neg (nI_neg1 (by omega)), if_neg (nI_neg1 (by omega)), ix6', rdI_n _ (by omega) (by decide), bd, m4 a q (by omega) (by omega)]
          unfold f_X7_isFree
          rw [X0_wishOf_ok e4 (by omega) (by omega), bd]
          simp (disch := omega) only [q_le0, q_eq0]
          by_cases hw0 : W a q = 0
          · rw [if_pos hw0, if_pos hw0, bd, if_pos rfl]
            exact ⟨_, T, _, _, rfl, rfl, hG, hB0, hM0⟩
          · rw [if_neg hw0, if_neg hw0, X0_holders_ok e5 hG.T6 hK hN hg (show q < 6 by omega) (hu_nI (x := a) (by omega)), bd, X8_had_ok m5 hG.T6 hK hN hg (show q < 6 by omega), bd]
            have hX := hadX_one (K := K) (T g) (q + 1) ha
            have hX8 : had K (T g) (q + 1) ≤ 8 := Nat.le_trans (fb_ct_le _ _) hK
            have hS := hG.S3 q
            rw [rdI_n _ (by omega) (by decide), rdI_n _ (by omega) (by decide), bd, bd, e3 q (by omega), m3 q (by omega), ← hX, pk_sub (by omega), Nat.add_sub_cancel]
            simp (disch := omega) only [q_le, q_lt]
            by_cases hc : hadX K (T g) (q + 1) a < S q
            · rw [if_neg (by omega), bd, if_neg one_ne, if_pos hc, X0_tell_ok _ hg (by omega), bd, ix8', wrI_n _ _ (by omega) (by decide), bd, nI_1]
              refine ⟨_, upT T g a (q + 1), _, _, rfl, rfl, GD_tell hG hg ha ho (fun p h => ?_), ⟨⟨rfl, rfl, e3, e4, ?_⟩, hl⟩, ⟨rfl, rfl, m3, m4, repTM m5 (o := q + 1) hg (by omega)⟩⟩
              · have : p = q := by omega
                subst this
                exact ⟨by omega, hc⟩
              · have := repT e5 (g := g) (a := a) (o := q + 1) hg (by omega)
                rw [oI_s] at this
                exact this
            · rw [if_pos (by omega), bd, if_pos rfl, if_neg hc]
              exact ⟨_, T, _, _, rfl, rfl, hG, hB0, hM0⟩
      · rw [if_neg (show ¬ (z = -1 ∨ isM P z) from fun e => e.elim h1 h2), if_pos rfl, if_neg h1, X8_isPlace_ok hP, bd, if_neg h2, if_pos rfl]
        exact ⟨_, T, _, _, rfl, rfl, hG, hB0, hM0⟩
    · rw [if_neg hy, if_pos rfl, if_pos rfl]
      exact ⟨_, T, _, _, rfl, rfl, hG, hB0, hM0⟩
  · rw [if_neg hx, if_pos rfl, if_pos rfl]
    exact ⟨_, T, _, _, rfl, rfl, hG, hB0, hM0⟩
/-! sums -/
theorem X0_allSeats_4_ok (hP : P ≤ 6) {cs : Nat → Int32} (e3 : ∀ q, q < 6 → cs q = nI (S q)) : ∀ (n q : Nat), q ≤ P → P - q < n → f_X0_allSeats_4 N (nI P) cs n (nI (fb_sm S q)) (nI q) = some (nI (fb_sm S P)) := by
  intro n
  induction n with
  | zero => intro q h1 h2; omega
  | succ n ih =>
    intro q hq hn
    rw [f_X0_allSeats_4]
    by_cases h : P ≤ q
    · have : q = P := by omega
      subst this
      simp (disch := omega) only [bd, rdI_n, wrI_n, rdL_n, wrL_n, ix6, ix6', ix7, ix7', ix8, ix8', nI_1, q_le, if_pos]
    · simp (disch := omega) only [bd, rdI_n, wrI_n, rdL_n, wrL_n, ix6, ix6', ix7, ix7', ix8, ix8', nI_1, q_le, if_neg h, e3 q (show q < 6 by omega), nI_add]
      exact ih (q + 1) (by omega) (by omega)
def wishN (W : Nat → Nat → Nat) (n : Nat) : Nat := fb_ct (fun i => decide (0 < W (i / 6) (i % 6))) n
theorem X0_allWishes_4_ok {cw : Nat → Int32} (hW : ∀ a q, W a q ≤ 6) (e4 : ∀ a q, a < 8 → q < 6 → cw (a * 6 + q) = nI (W a q)) : ∀ (n i : Nat), i ≤ 48 → 48 - i < n → f_X0_allWishes_4 N cw n (nI (wishN W i)) (nI i) = some (nI (wishN W 48)) := by
  intro n
  induction n with
  | zero => intro q h1 h2; omega
  | succ n ih =>
    intro i hi hn
    rw [f_X0_allWishes_4]
    by_cases h : 48 ≤ i
    · have : i = 48 := by omega
      subst this
      simp (disch := omega) only [bd, rdI_n, wrI_n, rdL_n, wrL_n, ix6, ix6', ix7, ix7', ix8, ix8', nI_1, q_48le, if_pos]
    · have e := e4 (i / 6) (i % 6) (by omega) (by omega)
      rw [show i / 6 * 6 + i % 6 = i by omega] at e
      have h6 := hW (i / 6) (i % 6)
      have := ih (i + 1) (by omega) (by omega)
      have hs : wishN W (i + 1) = wishN W i + (if decide (0 < W (i / 6) (i % 6)) then 1 else 0) := rfl
      rw [hs] at this
      simp (disch := omega) only [bd, rdI_n, wrI_n, rdL_n, wrL_n, ix6, ix6', ix7, ix7', ix8, ix8', nI_1, q_48le, if_neg h, e, q_le0]
      by_cases hq : W (i / 6) (i % 6) = 0
      · rw [if_pos hq]; simpa [hq] using this
      · rw [if_neg hq]; rw [if_pos (decide_eq_true (by omega))] at this; exact this
theorem X8_countOf_34_ok {ms mw : Nat → Int32} (hW : ∀ a q, W a q ≤ 6) (m4 : ∀ a q, a < 8 → q < 6 → mw (a * 6 + q) = nI (W a q)) : ∀ (n i : Nat), i ≤ 48 → 48 - i < n → f_X8_countOf_34 N (nI K) (nI P) ms mw n 3 (nI (wishN W i)) (nI i) = some (nI (wishN W 48)) := by
  intro n
  induction n with
  | zero => intro q h1 h2; omega
  | succ n ih =>
    intro i hi hn
    rw [f_X8_countOf_34]
    by_cases h : 48 ≤ i
    · have : i = 48 := by omega
      subst this
      unfold f_X8_countOf_68
      simp (disch := omega) only [bd, rdI_n, wrI_n, rdL_n, wrL_n, ix6, ix6', ix7, ix7', ix8, ix8', nI_1, q_48le, if_pos]
      rw [if_neg (by decide), if_neg (by decide)]
    · have e := m4 (i / 6) (i % 6) (by omega) (by omega)
      rw [show i / 6 * 6 + i % 6 = i by omega] at e
      have h6 := hW (i / 6) (i % 6)
      have := ih (i + 1) (by omega) (by omega)
      have hs : wishN W (i + 1) = wishN W i + (if decide (0 < W (i / 6) (i % 6)) then 1 else 0) := rfl
      rw [hs] at this
      rw [if_pos (show (3 : Int32) = 3 from rfl)]
      simp (disch := omega) only [bd, rdI_n, wrI_n, rdL_n, wrL_n, ix6, ix6', ix7, ix7', ix8, ix8', nI_1, q_48le, if_neg h, e, q_le0, Int32.add_zero]
      by_cases hq : W (i / 6) (i % 6) = 0
      · rw [if_pos hq]; simpa [hq] using this
      · rw [if_neg hq]; rw [if_pos (decide_eq_true (by omega))] at this; exact this
theorem X8_countOf_4_ok (hP : P ≤ 6) {ms mw : Nat → Int32} (m3 : ∀ q, q < 6 → ms q = nI (S q)) (hN : 40000 ≤ N) : ∀ (n q : Nat), q ≤ P → P - q < n → f_X8_countOf_4 N (nI K) (nI P) ms mw n 2 (nI (fb_sm S q)) (nI q) = some (nI (fb_sm S P)) := by
  intro n
  induction n with
  | zero => intro q h1 h2; omega
  | succ n ih =>
    intro q hq hn
    rw [f_X8_countOf_4]
    by_cases h : P ≤ q
    · have : q = P := by omega
      subst this
      simp (disch := omega) only [bd, rdI_n, wrI_n, rdL_n, wrL_n, ix6, ix6', ix7, ix7', ix8, ix8', nI_1, q_le, if_pos]
      unfold f_X8_countOf_32
      obtain ⟨k, rfl⟩ : ∃ k, N = k + 1 := ⟨N - 1, by omega⟩
      rw [f_X8_countOf_34, if_neg (by decide), if_neg (by decide)]
      unfold f_X8_countOf_68
      rw [if_neg (by decide), if_neg (by decide)]
    · rw [if_pos (show (2 : Int32) = 2 from rfl)]
      simp (disch := omega) only [bd, rdI_n, wrI_n, rdL_n, wrL_n, ix6, ix6', ix7, ix7', ix8, ix8', nI_1, q_le, if_neg h, m3 q (show q < 6 by omega), nI_add]
      exact ih (q + 1) (by omega) (by omega)
/-- how many: askers, places, seats, wishes -/
def cnt4 (K P : Nat) (S : Nat → Nat) (W : Nat → Nat → Nat) : Nat → Nat
  | 0 => K
  | 1 => P
  | 2 => fb_sm S P
  | _ => wishN W 48
theorem X7_count_ok (hG : GD K P S W T) (hN : 40000 ≤ N) {cs cw : Nat → Int32} (e3 : ∀ q, q < 6 → cs q = nI (S q)) (e4 : ∀ a q, a < 8 → q < 6 → cw (a * 6 + q) = nI (W a q)) {k : Nat} (hk : k < 4) : f_X7_count N (nI K) (nI P) cs cw (nI k) = some (nI (cnt4 K P S W k)) := by
  have hP := hG.P6
  have h1 : f_X0_allSeats N (nI P) cs = some (nI (fb_sm S P)) := X0_allSeats_4_ok hP e3 N 0 (Nat.zero_le _) (by omega)
  have h2 : f_X0_allWishes N cw = some (nI (wishN W 48)) := X0_allWishes_4_ok hG.W6 e4 N 0 (Nat.zero_le _) (by omega)
  unfold f_X7_count
  match k, hk with
  | 0, _ => rw [if_pos (by decide)]; rfl
  | 1, _ => rw [if_neg (by decide), if_pos (by decide)]; rfl
  | 2, _ => rw [if_neg (by decide), if_neg (by decide), if_pos (by decide), h1, bd]; rfl
  | 3, _ => rw [if_neg (by decide), if_neg (by decide), if_neg (by decide), if_pos (by decide), h2, bd]; rfl
theorem X8_countOf_ok (hG : GD K P S W T) (hN : 40000 ≤ N) {ms mw : Nat → Int32} (e3 : ∀ q, q < 6 → ms q = nI (S q)) (e4 : ∀ a q, a < 8 → q < 6 → mw (a * 6 + q) = nI (W a q)) {k : Nat} (hk : k < 4) : f_X8_countOf N (nI K) (nI P) ms mw (nI k) = some (nI (cnt4 K P S W k)) := by
  have hP := hG.P6
  have skip : ∀ v, ¬ v = 2 → f_X8_countOf N (nI K) (nI P) ms mw v = f_X8_countOf_34 N (nI K) (nI P) ms mw N v 0 0 := by
    intro v hv
    unfold f_X8_countOf
    obtain ⟨k, rfl⟩ : ∃ k, N = k + 1 := ⟨N - 1, by omega⟩
    rw [f_X8_countOf_4]
    unfold f_X8_countOf_32
    rw [if_neg hv]
    split <;> rfl
  have skip2 : ∀ v, ¬ v = 3 → f_X8_countOf_34 N (nI K) (nI P) ms mw N v 0 0 = f_X8_countOf_68 N (nI K) (nI P) ms mw v 0 := by
    intro v hv
    obtain ⟨k, rfl⟩ : ∃ k, N = k + 1 := ⟨N - 1, by omega⟩
    rw [f_X8_countOf_34, if_neg (by decide), if_neg hv]
  match k, hk with
  | 0, _ => rw [skip _ (by decide), skip2 _ (by decide)]; unfold f_X8_countOf_68; rw [if_pos (by decide)]; rfl
  | 1, _ => rw [skip _ (by decide), skip2 _ (by decide)]; unfold f_X8_countOf_68; rw [if_neg (by decide), if_pos (by decide)]; rfl
  | 2, _ => exact X8_countOf_4_ok hP e3 hN N 0 (Nat.zero_le _) (by omega)
  | 3, _ => rw [skip _ (by decide)]; exact X8_countOf_34_ok hG.W6 e4 N 0 (Nat.zero_le _) (by omega)
theorem call_count (hG : GD K P S W T) (hN : 40000 ≤ N) {x : Int32} : ∀ {ca cp ma mp : Int32} {cs cl ct cw ms mw mt : Nat → Int32}, SB K P S W T ca cp cs cl ct cw → RepM K P S W T ma mp ms mw mt →
    ∃ r, f_X7_count N ca cp cs cw x = some r ∧ f_X8_count N ma mp ms mw x = some r := by
  intro ca cp ma mp cs cl ct cw ms mw mt hB hM
  obtain ⟨⟨e1, e2, e3, e4, e5⟩, hl⟩ := hB
  obtain ⟨m1, m2, m3, m4, m5⟩ := hM
  subst e1; subst m1; subst e2; subst m2
  unfold f_X8_count
  rw [X8_in_ok, bd, ti0, ti3]
  by_cases hx : 0 ≤ x.toInt ∧ x.toInt ≤ 3
  · obtain ⟨k, hk, rfl⟩ := small_ex (x := x) (n := 3) hx.1 hx.2
    rw [if_pos hx, if_neg one_ne, X8_countOf_ok hG hN m3 m4 (by omega), bd, X7_count_ok hG hN e3 e4 (by omega)]
    exact ⟨_, rfl, rfl⟩
  · rw [if_neg hx, if_pos rfl]
    refine ⟨_, ?_, rfl⟩
    unfold f_X7_count
    rw [if_neg (fun e => hx (by rw [e]; decide)), if_neg (fun e => hx (by rw [e]; decide)), if_neg (fun e => hx (by rw [e]; decide)), if_neg (fun e => hx (by rw [e]; decide))]
end SIMPLE4
