/-! share, envies -/
section SHARE
variable {N K P : Nat} {S : Nat → Nat} {W T : Nat → Nat → Nat}
theorem call_share (hG : GD K P S W T) (hN : 40000 ≤ N) {x y : Int32} {fa fb : Int64} {c_whole : Int64} {c_ate : Nat → Int64} {c_eats : Nat → Int32} {c_leftOf : Nat → Int64} {c_eating_whole : Int64} {c_eating_time : Int64} {c_eating_eaten : Nat → Int64} {c_eating_eaters : Nat → Int32} {c_eating_eatsAt : Nat → Int32} {c_eating_rest : Nat → Int64} : ∀ {ca cp ma mp : Int32} {cs cl ct cw ms mw mt : Nat → Int32}, SB K P S W T ca cp cs cl ct cw → RepM K P S W T ma mp ms mw mt →
    ∃ r fa' fb' w' time' eaten' et' ea' rest' w2' ate' ea2' left', f_X7_share N ca cp cl cs fa fb c_eating_whole c_eating_time c_eating_eaten c_eating_eaters c_eating_eatsAt c_eating_rest x y = some (r, fa', fb', w', time', eaten', et', ea', rest') ∧
      f_X8_share N ma mp ms mw fa fb c_whole c_ate c_eats c_leftOf x y = some (r, fa', fb', w2', ate', ea2', left') := by
  intro ca cp ma mp cs cl ct cw ms mw mt hB hM
  obtain ⟨⟨e1, e2, b3, b4, b5⟩, hl⟩ := hB
  obtain ⟨m1, m2, m3, m4, m5⟩ := hM
  have hP := hG.P6
  have hK := hG.K8
  subst e1; subst m1; subst e2; subst m2
  unfold f_X7_share f_X8_share
  rw [X0_isAsker_ok hK, X8_isAsker_ok hK, bd, bd]
  by_cases hx : isM K x
  · rw [if_pos hx, if_neg one_ne, if_neg one_ne, X0_isPlace_ok hP, X8_isPlace_ok hP, bd, bd]
    by_cases hy : isM P y
    · rw [if_pos hy, if_neg one_ne, if_neg one_ne]
      obtain ⟨a, ha, rfl⟩ := isM_ex hx
      obtain ⟨q, hq, rfl⟩ := isM_ex hy
      obtain ⟨w', e', et', ea', eaten', rest', ate', ea2', left', time', g1, g2, g3, g4, g5, g6⟩ := eat_ok (N := N) (mw := mw) hN hG hl b3 m3 m4 c_eating_whole c_eating_time c_whole c_eating_eaten c_eating_rest c_ate c_leftOf c_eating_eaters c_eating_eatsAt c_eats
      have he := g6.2 a q
      have hw := g6.1
      rw [g1, bd, g2, bd]
      unfold f_X1_eatenBy
      simp only
      rw [ix6, rdL_n _ (by omega) (by decide), bd, bd, ix6', rdL_n _ (by omega) (by decide), bd, g3 a q (by omega) (by omega), g4 a q (by omega) (by omega)]
      by_cases h0 : e' a q = 0
      · rw [h0, if_pos (show lN 0 = 0 from rfl), if_pos (show lN 0 = 0 from rfl)]
        exact ⟨_, _, _, _, _, _, _, _, _, _, _, _, _, rfl, rfl⟩
      · have hne : ¬ lN (e' a q) = 0 := fun z => h0 ((lN_eq (b := 0) (by omega) (by decide)).mp z)
        rw [if_neg hne, if_neg hne, bd, tellFraction_ok hN (by omega) (by omega) (by omega), bd, tells_ok hN (by omega) (by omega) (by omega), bd]
        exact ⟨_, _, _, _, _, _, _, _, _, _, _, _, _, rfl, rfl⟩
    · rw [if_neg hy, if_pos rfl, if_pos rfl]
      exact ⟨_, _, _, _, _, _, _, _, _, _, _, _, _, rfl, rfl⟩
  · rw [if_neg hx, if_pos rfl, if_pos rfl]
    exact ⟨_, _, _, _, _, _, _, _, _, _, _, _, _, rfl, rfl⟩
/-- what x ate of places that a has wishes for up to v -/
def upV (W : Nat → Nat → Nat) (e : Nat → Nat → Nat) (a v x n : Nat) : Nat := fb_sm (fun q => if 1 ≤ W a q ∧ W a q ≤ v then e x q else 0) n
theorem eu_6 (hP : P ≤ 6) (hW : ∀ a q, W a q ≤ 6) {cw : Nat → Int32} (hw4 : ∀ a q, a < 8 → q < 6 → cw (a * 6 + q) = nI (W a q)) {e : Nat → Nat → Nat} {eaten : Nat → Int64} (h : EtIs e eaten) {a v x : Nat} (ha : a < 8) (hv : v ≤ 6) (hx : x < 8) :
    ∀ (n q : Nat), q ≤ P → P - q < n → f_X1_eatenUpTo_6 N (nI P) eaten cw n (nI a) (nI v) (nI x) (lN (upV W e a v x q)) (nI q) = some (lN (upV W e a v x P)) := by
  intro n
  induction n with
  | zero => intro q h1 h2; omega
  | succ n ih =>
    intro q hq hn
    rw [f_X1_eatenUpTo_6]
    by_cases hc : P ≤ q
    · have : q = P := by omega
      subst this
      rw [if_pos (nI_le (Nat.le_refl _) (by omega))]
    · have h8 := wo_le W hW a (q + 1)
      have h6 := hW a q
      have hs : upV W e a v x (q + 1) = upV W e a v x q + (if 1 ≤ W a q ∧ W a q ≤ v then e x q else 0) := rfl
      have hrec := ih (q + 1) (by omega) (by omega)
      rw [hs] at hrec
      have hwq : wo W a (q + 1) = if W a q = 0 then 8 else W a q := rfl
      rw [if_neg (nI_ge (by omega) (by omega)), show nI q = oI (q + 1) from (oI_s q).symm, X0_worthOf_ok N hW hw4 ha (by omega), bd, oI_s]
      simp (disch := omega) only [q_lt]
      by_cases hz : W a q = 0
      · have hw8 : wo W a (q + 1) = 8 := by rw [hwq, if_pos hz]
        rw [if_neg (by omega), Nat.add_zero] at hrec
        rw [hw8, if_pos (by omega), nI_1]
        exact hrec
      · have hww : wo W a (q + 1) = W a q := by rw [hwq, if_neg hz]
        rw [hww]
        by_cases hlt : v < W a q
        · rw [if_neg (by omega), Nat.add_zero] at hrec
          rw [if_pos hlt, nI_1]
          exact hrec
        · rw [if_pos ⟨by omega, by omega⟩] at hrec
          rw [if_neg hlt, ix6, rdL_n _ (by omega) (by decide), bd, h x q hx (by omega), lN_add, nI_1]
          exact hrec
theorem eatenUpTo_ok (hN : 40000 ≤ N) (hP : P ≤ 6) (hW : ∀ a q, W a q ≤ 6) {cw : Nat → Int32} (hw4 : ∀ a q, a < 8 → q < 6 → cw (a * 6 + q) = nI (W a q)) {e : Nat → Nat → Nat} {eaten : Nat → Int64} (h : EtIs e eaten) {a v x : Nat} (ha : a < 8) (hv : v ≤ 6) (hx : x < 8) :
    f_X1_eatenUpTo N (nI P) eaten cw (nI a) (nI v) (nI x) = some (lN (upV W e a v x P)) := by
  have := eu_6 (N := N) hP hW hw4 h ha hv hx N 0 (Nat.zero_le _) (by omega)
  exact this
theorem ev_45 (hP : P ≤ 6) (hW : ∀ a q, W a q ≤ 6) {ms mw : Nat → Int32} (hw4 : ∀ a q, a < 8 → q < 6 → mw (a * 6 + q) = nI (W a q)) {e : Nat → Nat → Nat} {ate : Nat → Int64} (h : EtIs e ate) {ww : Int64} {left : Nat → Int64} {ea : Nat → Int32} {a b v : Nat} (ha : a < 8) (hb : b < 8) (hv : v ≤ 6) (hle : ∀ x q, e x q ≤ 262144) (k30 : Int64 → (Nat → Int64) → (Nat → Int32) → (Nat → Int64) → Int32 → Int32 → Int32 → Option (Int32 × Int64 × (Nat → Int64) × (Nat → Int32) × (Nat → Int64))) :
    ∀ (n q : Nat), q ≤ P → P - q < n → f_X8_envies_45 N (nI K) (nI P) ms mw k30 n ww ate ea left (nI a) (nI b) (nI v) (lN (upV W e a v a q)) (lN (upV W e a v b q)) (nI q) = (if upV W e a v b P ≤ upV W e a v a P then k30 ww ate ea left (nI a) (nI b) (nI (v + 1)) else some (1, ww, ate, ea, left)) := by
  have hbd : ∀ x n, n ≤ 6 → upV W e a v x n ≤ 6 * 262144 := fun x n hn => Nat.le_trans (fb_sm_bound (c := 262144) (fun q _ => by
    split
    · exact hle x q
    · exact Nat.zero_le _)) (Nat.mul_le_mul_right _ hn)
  intro n
  induction n with
  | zero => intro q h1 h2; omega
  | succ n ih =>
    intro q hq hn
    rw [f_X8_envies_45]
    by_cases hc : P ≤ q
    · have : q = P := by omega
      subst this
      have b1 := hbd a q hP
      have b2 := hbd b q hP
      rw [if_pos (nI_le (Nat.le_refl _) (by omega)), nI_1]
      by_cases hl : upV W e a v b q ≤ upV W e a v a q
      · rw [if_pos hl, if_pos ((lN_le (by omega) (by omega)).mpr hl)]
      · rw [if_neg hl, if_neg (fun z => hl ((lN_le (by omega) (by omega)).mp z))]
    · have h6 := hW a q
      have hs : ∀ x, upV W e a v x (q + 1) = upV W e a v x q + (if 1 ≤ W a q ∧ W a q ≤ v then e x q else 0) := fun x => rfl
      have hrec := ih (q + 1) (by omega) (by omega)
      rw [hs, hs] at hrec
      rw [if_neg (nI_ge (by omega) (by omega)), ix6', rdI_n _ (by omega) (by decide), bd, hw4 a q ha (by omega), X8_in_ok, bd, ti1, nI_toInt (by omega), nI_toInt (by omega)]
      by_cases hi : 1 ≤ W a q ∧ W a q ≤ v
      · rw [if_pos hi, if_pos hi] at hrec
        rw [if_pos (show (1 : Int) ≤ (W a q : Int) ∧ (W a q : Int) ≤ (v : Int) by omega), if_neg one_ne, rdL_n _ (by omega) (by decide), bd, ix6', rdL_n _ (by omega) (by decide), bd, h a q ha (by omega), h b q hb (by omega), lN_add, lN_add, nI_1]
        exact hrec
      · rw [if_neg hi, if_neg hi, Nat.add_zero, Nat.add_zero] at hrec
        rw [if_neg (show ¬ ((1 : Int) ≤ (W a q : Int) ∧ (W a q : Int) ≤ (v : Int)) by omega), if_pos rfl, nI_1]
        exact hrec
theorem ev_both (hN : 40000 ≤ N) (hP : P ≤ 6) (hW : ∀ a q, W a q ≤ 6) {cl cs cw ms mw : Nat → Int32} (hc4 : ∀ a q, a < 8 → q < 6 → cw (a * 6 + q) = nI (W a q)) (hw4 : ∀ a q, a < 8 → q < 6 → mw (a * 6 + q) = nI (W a q)) {e : Nat → Nat → Nat} {eaten rest ate left : Nat → Int64} (h1 : EtIs e eaten) (h2 : EtIs e ate) {w1 tt w2 : Int64} {et ea ea2 : Nat → Int32} {a b : Nat} (ha : a < 8) (hb : b < 8) (hle : ∀ x q, e x q ≤ 262144) :
    ∀ (n1 n2 v : Nat), 1 ≤ v → v ≤ 7 → 7 - v < n1 → 7 - v < n2 → ∃ r, f_X7_envies_39 N (nI K) (nI P) cl cs cw n1 w1 tt eaten et ea rest (nI a) (nI b) (nI v) = some (r, w1, tt, eaten, et, ea, rest) ∧ f_X8_envies_30 N (nI K) (nI P) ms mw n2 w2 ate ea2 left (nI a) (nI b) (nI v) = some (r, w2, ate, ea2, left) := by
  intro n1
  induction n1 with
  | zero => intro n2 v h1 h2 h3; omega
  | succ n1 ih =>
    intro n2 v hv1 hv7 hn1 hn2
    obtain ⟨n2, rfl⟩ : ∃ n', n2 = n' + 1 := ⟨n2 - 1, by omega⟩
    rw [f_X7_envies_39, f_X8_envies_30]
    by_cases hc : 7 ≤ v
    · rw [if_pos (show (6 : Int32) < nI v from nI_lt (a := 6) (by omega) (by omega)), if_pos (show (7 : Int32) ≤ nI v from nI_le (a := 7) hc (by omega))]
      exact ⟨_, rfl, rfl⟩
    · have hbd : ∀ x, upV W e a v x P ≤ 6 * 262144 := fun x => Nat.le_trans (fb_sm_bound (c := 262144) (fun q _ => by
        split
        · exact hle x q
        · exact Nat.zero_le _)) (Nat.mul_le_mul_right _ hP)
      have b1 := hbd a
      have b2 := hbd b
      have h45 := ev_45 (N := N) (K := K) (ms := ms) (ww := w2) (left := left) (ea := ea2) hP hW hw4 h2 ha hb (show v ≤ 6 by omega) hle (f_X8_envies_30 N (nI K) (nI P) ms mw n2) N 0 (Nat.zero_le _) (by omega)
      have h45' : f_X8_envies_45 N (nI K) (nI P) ms mw (f_X8_envies_30 N (nI K) (nI P) ms mw n2) N w2 ate ea2 left (nI a) (nI b) (nI v) 0 0 0 = _ := h45
      rw [if_neg (show ¬ (6 : Int32) < nI v from nI_nlt (b := v) (a := 6) (by omega) (by decide)), if_neg (show ¬ (7 : Int32) ≤ nI v from nI_ge (b := 7) (by omega) (by decide)), eatenUpTo_ok hN hP hW hc4 h1 ha (by omega) ha, bd, eatenUpTo_ok hN hP hW hc4 h1 ha (by omega) hb, bd, h45', nI_1]
      by_cases hl : upV W e a v b P ≤ upV W e a v a P
      · rw [if_pos hl, if_pos ((lN_le (by omega) (by omega)).mpr hl)]
        exact ih n2 (v + 1) (by omega) (by omega) (by omega) (by omega)
      · rw [if_neg hl, if_neg (fun z => hl ((lN_le (by omega) (by omega)).mp z))]
        exact ⟨_, rfl, rfl⟩
theorem call_envies (hG : GD K P S W T) (hN : 40000 ≤ N) {x y : Int32} {c_whole : Int64} {c_ate : Nat → Int64} {c_eats : Nat → Int32} {c_leftOf : Nat → Int64} {c_eating_whole : Int64} {c_eating_time : Int64} {c_eating_eaten : Nat → Int64} {c_eating_eaters : Nat → Int32} {c_eating_eatsAt : Nat → Int32} {c_eating_rest : Nat → Int64} : ∀ {ca cp ma mp : Int32} {cs cl ct cw ms mw mt : Nat → Int32}, SB K P S W T ca cp cs cl ct cw → RepM K P S W T ma mp ms mw mt →
    ∃ r w' time' eaten' et' ea' rest' w2' ate' ea2' left', f_X7_envies N ca cp cl cs cw c_eating_whole c_eating_time c_eating_eaten c_eating_eaters c_eating_eatsAt c_eating_rest x y = some (r, w', time', eaten', et', ea', rest') ∧
      f_X8_envies N ma mp ms mw c_whole c_ate c_eats c_leftOf x y = some (r, w2', ate', ea2', left') := by
  intro ca cp ma mp cs cl ct cw ms mw mt hB hM
  obtain ⟨⟨e1, e2, b3, b4, b5⟩, hl⟩ := hB
  obtain ⟨m1, m2, m3, m4, m5⟩ := hM
  have hP := hG.P6
  have hK := hG.K8
  subst e1; subst m1; subst e2; subst m2
  unfold f_X7_envies f_X8_envies
  rw [X0_isAsker_ok hK, X8_isAsker_ok hK, bd, bd]
  by_cases hx : isM K x
  · rw [if_pos hx, if_neg one_ne, if_neg one_ne, X0_isAsker_ok hK, X8_isAsker_ok hK, bd, bd]
    by_cases hy : isM K y
    · rw [if_pos hy, if_neg one_ne, if_neg one_ne]
      by_cases hxy : x = y
      · rw [if_pos hxy, if_pos hxy]
        exact ⟨_, _, _, _, _, _, _, _, _, _, _, rfl, rfl⟩
      · rw [if_neg hxy, if_neg hxy]
        obtain ⟨a, ha, rfl⟩ := isM_ex hx
        obtain ⟨b, hb, rfl⟩ := isM_ex hy
        obtain ⟨w', e', et', ea', eaten', rest', ate', ea2', left', time', g1, g2, g3, g4, g5, g6⟩ := eat_ok (N := N) (mw := mw) hN hG hl b3 m3 m4 c_eating_whole c_eating_time c_whole c_eating_eaten c_eating_rest c_ate c_leftOf c_eating_eaters c_eating_eatsAt c_eats
        rw [g1, bd, g2, bd]
        obtain ⟨r, r1, r2⟩ := ev_both (N := N) (K := K) (cl := cl) (cs := cs) (ms := ms) (w1 := lN w') (tt := time') (w2 := lN w') (rest := rest') (left := left') (et := et') (ea := ea') (ea2 := ea2') hN hP hG.W6 b4 m4 g3 g4 (show a < 8 by omega) (show b < 8 by omega) (fun x q => by have := g6.2 x q; omega) N N 1 (by omega) (by omega) (by omega) (by omega)
        exact ⟨_, _, _, _, _, _, _, _, _, _, _, r1, r2⟩
    · rw [if_neg hy, if_pos rfl, if_pos rfl]
      exact ⟨_, _, _, _, _, _, _, _, _, _, _, rfl, rfl⟩
  · rw [if_neg hx, if_pos rfl, if_pos rfl]
    exact ⟨_, _, _, _, _, _, _, _, _, _, _, rfl, rfl⟩
end SHARE
