/-! trade: start; round -/
section TRADE4
variable {N K P : Nat} {S : Nat → Nat} {W T : Nat → Nat → Nat}
def owB (T : Nat → Nat → Nat) (g a : Nat) : Bool := decide (T g a ≠ 0)
theorem run_4 (hN : 40000 ≤ N) {g : Nat} (hg : g < 4) (hT6 : ∀ g a, T g a ≤ 6) {ct cw : Nat → Int32} (hc5 : ∀ g a, g < 4 → a < 8 → ct (g * 8 + a) = oI (T g a)) {ho pts : Nat → Int32} :
    ∀ (n a : Nat) (gets holds served : Nat → Int32), a ≤ 8 → 8 - a < n → (∀ x, x < a → gets x = oI 0 ∧ holds x = oI (T g x) ∧ served x = nI 0) →
      ∃ gets' holds' served', f_X6_run_4 N (nI K) (nI P) ct cw n gets ho holds pts served (nI g) (nI (fb_ct (owB T g) a)) (nI a) = f_X6_run_60 N (nI K) (nI P) ct cw N gets' ho holds' pts served' (nI (fb_ct (owB T g) 8)) 1 ∧ ∀ x, x < 8 → gets' x = oI 0 ∧ holds' x = oI (T g x) ∧ served' x = nI 0 := by
  intro n
  induction n with
  | zero => intro a g h s h1 h2; omega
  | succ n ih =>
    intro a gets holds served ha hn h
    rw [f_X6_run_4]
    by_cases hc : 8 ≤ a
    · have : a = 8 := by omega
      subst this
      rw [if_pos (show (8 : Int32) ≤ nI 8 from by decide)]
      exact ⟨gets, holds, served, rfl, h⟩
    · have h6 := hT6 g a
      rw [if_neg (show ¬ (8 : Int32) ≤ nI a from nI_ge (b := 8) (by omega) (by decide)), X0_toldOf_ok hc5 hg (by omega), bd, wrI_n _ _ (by omega) (by decide), bd, wrI_n _ _ (by omega) (by decide), bd, wrI_n _ _ (by omega) (by decide), bd, rdI_n _ (by omega) (by decide), bd, pk_us]
      simp (disch := omega) only [q_on1]
      have hx : ∀ x, x < a + 1 → upd gets a (-1) x = oI 0 ∧ upd holds a (oI (T g a)) x = oI (T g x) ∧ upd served a 0 x = nI 0 := by
        intro x hx
        by_cases e : x = a
        · rw [e, pk_us, pk_us, pk_us]; exact ⟨oI_0.symm, rfl, rfl⟩
        · rw [pk_un e, pk_un e, pk_un e]; exact h x (by omega)
      have hsuc : fb_ct (owB T g) (a + 1) = fb_ct (owB T g) a + (if owB T g a = true then 1 else 0) := rfl
      have := ih (a + 1) _ _ _ (by omega) (by omega) hx
      by_cases e : T g a = 0
      · rw [if_pos e, nI_1]
        rw [hsuc, if_neg (by unfold owB; simp [e]), Nat.add_zero] at this
        exact this
      · rw [if_neg e, nI_1, nI_1]
        rw [hsuc, if_pos (by unfold owB; simp [e])] at this
        exact this
theorem ft_4 (hN : 40000 ≤ N) (hK : K ≤ 8) {g : Nat} (hg : g < 4) (hT6 : ∀ g a, T g a ≤ 6) {mt mw : Nat → Int32} (ht5 : ∀ g a, g < 4 → a < 8 → mt (g * 8 + a) = nI (T g a)) {points : Nat → Int32} :
    ∀ (n a : Nat) (found served : Nat → Int32), a ≤ K → K - a < n → (∀ x, x < a → found x = nI 0 ∧ served x = nI 0) →
      ∃ found' served', f_X8_findTrade_4 N (nI K) mt mw n found points served (nI g) (nI (em (owB T g) a)) (nI a) = f_X8_findTrade_58 N (nI K) mt mw N found' points served' (nI g) (nI (em (owB T g) K)) 1 ∧ ∀ x, x < K → found' x = nI 0 ∧ served' x = nI 0 := by
  intro n
  induction n with
  | zero => intro a g h h1 h2; omega
  | succ n ih =>
    intro a found served ha hn h
    rw [f_X8_findTrade_4]
    by_cases hc : K ≤ a
    · have : a = K := by omega
      subst this
      rw [if_pos (nI_le (Nat.le_refl _) (by omega))]
      exact ⟨found, served, rfl, h⟩
    · have h6 := hT6 g a
      rw [if_neg (nI_ge (by omega) (by omega)), wrI_n _ _ (by omega) (by decide), bd, wrI_n _ _ (by omega) (by decide), bd, ix8', rdI_n _ (by omega) (by decide), bd, ht5 g a hg (by omega)]
      simp (disch := omega) only [q_le0]
      unfold f_X8_findTrade_48
      have hx : ∀ x, x < a + 1 → upd found a 0 x = nI 0 ∧ upd served a 0 x = nI 0 := by
        intro x hx
        by_cases e : x = a
        · rw [e, pk_us, pk_us]; exact ⟨rfl, rfl⟩
        · rw [pk_un e, pk_un e]; exact h x (by omega)
      have hsuc : em (owB T g) (a + 1) = em (owB T g) a + (if owB T g a = true then 2 ^ a else 0) := rfl
      have := ih (a + 1) _ _ (by omega) (by omega) hx
      by_cases e : T g a = 0
      · rw [if_pos e, nI_1, show (0 : Int32) = nI 0 from rfl, nI_or, Nat.or_zero]
        rw [hsuc, if_neg (by unfold owB; simp [e]), Nat.add_zero] at this
        exact this
      · rw [if_neg e, nI_1, one_sh (by omega), nI_or, em_or]
        rw [hsuc, if_pos (by unfold owB; simp [e])] at this
        exact this
/-- trade on both sides -/
theorem trade_ok (hN : 40000 ≤ N) (hG : GD K P S W T) {g : Nat} (hg : g < 4) {ct cw mt mw : Nat → Int32} (hc5 : ∀ g a, g < 4 → a < 8 → ct (g * 8 + a) = oI (T g a)) (ht5 : ∀ g a, g < 4 → a < 8 → mt (g * 8 + a) = nI (T g a)) (hw4 : ∀ a q, a < 8 → q < 6 → cw (a * 6 + q) = nI (W a q)) (hm4 : ∀ a q, a < 8 → q < 6 → mw (a * 6 + q) = nI (W a q)) (gets ho holds pts served found points servedM : Nat → Int32) :
    ∃ (fo sv : Nat → Nat) (gets' ho' holds' pts' served' found' points' servedM' : Nat → Int32), f_X6_run N (nI K) (nI P) ct cw gets ho holds pts served (nI g) = some (gets', ho', holds', pts', served') ∧
      f_X8_findTrade N (nI K) mt mw found points servedM (nI g) = some (found', points', servedM') ∧
      (∀ x, x < K → gets' x = oI (fo x)) ∧ (∀ x, x < K → served' x = nI (sv x)) ∧ (∀ x, x < K → found' x = nI (fo x)) ∧ (∀ x, x < K → servedM' x = nI (sv x)) ∧ GD K P S W (becT K T g fo) := by
  have hK := hG.K8
  have hP := hG.P6
  have hz : ∀ x, K ≤ x → owB T g x = false := fun x hx => by unfold owB; rw [hG.TK g x hx]; rfl
  obtain ⟨g1, h1, s1, r1, r2⟩ := run_4 (N := N) (K := K) (P := P) (cw := cw) (ho := ho) (pts := pts) hN hg hG.T6 hc5 N 0 gets holds served (Nat.zero_le _) (by omega) (fun x hx => absurd hx (Nat.not_lt_zero x))
  obtain ⟨f1, s2, t1, t2⟩ := ft_4 (N := N) (mw := mw) (points := points) hN hK hg hG.T6 ht5 N 0 found servedM (Nat.zero_le _) (by omega) (fun x hx => absurd hx (Nat.not_lt_zero x))
  have hct : fb_ct (owB T g) 8 = fb_ct (owB T g) K := by
    have e := fb_ct_split (owB T g) K (8 - K)
    rw [show K + (8 - K) = 8 by omega] at e
    rw [e, fb_ct_zero.mpr (fun k _ => hz (K + k) (by omega)), Nat.add_zero]
  have hem : em (owB T g) K = em (owB T g) 8 := by
    have : ∀ d, em (owB T g) (K + d) = em (owB T g) K := by
      intro d
      induction d with
      | zero => rfl
      | succ d ih => rw [show K + (d + 1) = K + d + 1 by omega, em, ih, hz (K + d) (by omega)]; rfl
    have := this (8 - K)
    rw [show K + (8 - K) = 8 by omega] at this
    exact this.symm
  have hc8 := fb_ct_le (owB T g) K
  obtain ⟨fo, sv, ge', ho', pt', se', fd', po', sm', z1, z2, z3, z4, z5, z6, z7⟩ := trade_rounds (N := N) (ct := ct) (cw := cw) (mw := mw) hN hG hg ht5 hw4 hm4 (holds := h1) (fun a ha => (r2 a (by omega)).2.1) 8 N N 1 (owB T g) (fun _ => 0) (fun _ => 0) g1 ho pts s1 f1 points s2 (by omega) (by omega) (by omega) (by omega) (by omega) hz
    (fun x hx => ⟨by omega, by unfold owB; simp⟩) (fun x hx => (r2 x (by omega)).1) (fun x hx => (r2 x (by omega)).2.2) (fun x hx => (t2 x hx).1) (fun x hx => (t2 x hx).2)
    ⟨fun _ _ _ => rfl, fun _ _ => Nat.zero_le _, fun x q hx hq => absurd hq.symm (Nat.succ_ne_zero q), fun q hq => by
      rw [fb_ct_zero.mpr (fun k _ => by simp), Nat.zero_add]
      refine Nat.le_trans (fb_ct_sub (fun k _ hk => ?_)) (hG.TS g q hq)
      simp only [Bool.and_eq_true] at hk
      exact hk.2⟩
  refine ⟨fo, sv, ge', ho', h1, pt', se', fd', po', sm', ?_, ?_, z3, z4, z5, z6, ?_⟩
  · have e : f_X6_run N (nI K) (nI P) ct cw gets ho holds pts served (nI g) = _ := r1
    rw [e, hct]
    exact z1
  · have e : f_X8_findTrade N (nI K) mt mw found points servedM (nI g) = _ := t1
    rw [e, hem]
    exact z2
  · obtain ⟨y1, y2, y3, y4⟩ := z7
    exact GD_bec hG hg y2 (fun a q ha hq => y3 a q ha hq) (fun q hq => by
      have := y4 q hq
      unfold had
      omega)
theorem call_round (hG : GD K P S W T) (hN : 40000 ≤ N) {x y : Int32} {c_found : Nat → Int32} {c_points : Nat → Int32} {c_served : Nat → Int32} {c_trade_gets : Nat → Int32} {c_trade_holderOf : Nat → Int32} {c_trade_holds : Nat → Int32} {c_trade_pointsAt : Nat → Int32} {c_trade_servedIn : Nat → Int32} : ∀ {ca cp ma mp : Int32} {cs cl ct cw ms mw mt : Nat → Int32}, SB K P S W T ca cp cs cl ct cw → RepM K P S W T ma mp ms mw mt →
    ∃ r gets' ho' holds' pts' served' found' points' servedM', f_X7_round N ca cp ct cw c_trade_gets c_trade_holderOf c_trade_holds c_trade_pointsAt c_trade_servedIn x y = some (r, gets', ho', holds', pts', served') ∧
      f_X8_round N ma mt mw c_found c_points c_served x y = some (r, found', points', servedM') := by
  intro ca cp ma mp cs cl ct cw ms mw mt hB hM
  obtain ⟨⟨e1, e2, b3, b4, b5⟩, hl⟩ := hB
  obtain ⟨m1, m2, m3, m4, m5⟩ := hM
  have hP := hG.P6
  have hK := hG.K8
  subst e1; subst m1; subst e2; subst m2
  unfold f_X7_round f_X8_round
  rw [X7_isTold_ok, X8_isTold_ok, bd, bd]
  by_cases hx : isM 4 x
  · rw [if_pos hx, if_neg one_ne, if_neg one_ne, X0_isAsker_ok hK, X8_isAsker_ok hK, bd, bd]
    by_cases hy : isM K y
    · rw [if_pos hy, if_neg one_ne, if_neg one_ne]
      obtain ⟨g, hg, rfl⟩ := isM_ex hx
      obtain ⟨a, ha, rfl⟩ := isM_ex hy
      obtain ⟨fo, sv, gets', ho', holds', pts', served', found', points', servedM', t1, t2, t3, t4, t5, t6, t7⟩ := trade_ok (N := N) hN hG hg b5 m5 b4 m4 c_trade_gets c_trade_holderOf c_trade_holds c_trade_pointsAt c_trade_servedIn c_found c_points c_served
      rw [t1, bd, t2, bd]
      simp only
      rw [rdI_n _ (by omega) (by decide), bd, rdI_n _ (by omega) (by decide), bd, t4 a ha, t6 a ha]
      exact ⟨_, _, _, _, _, _, _, _, _, rfl, rfl⟩
    · rw [if_neg hy, if_pos rfl, if_pos rfl]
      exact ⟨_, _, _, _, _, _, _, _, _, rfl, rfl⟩
  · rw [if_neg hx, if_pos rfl, if_pos rfl]
    exact ⟨_, _, _, _, _, _, _, _, _, rfl, rfl⟩
end TRADE4
