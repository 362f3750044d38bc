/-! become -/
section BECOME
variable {N K P : Nat} {S : Nat → Nat} {W T : Nat → Nat → Nat}
def bcT (T : Nat → Nat → Nat) (g : Nat) (t : Nat → Nat) (n : Nat) : Nat → Nat → Nat := fun g' a => if g' = g ∧ a < n then t a else T g' a
theorem bcT_step {told : Nat → Int32} {t : Nat → Nat} {g a : Nat} (hg : g < 4) (ha : a < 8) (h : ∀ g' a', g' < 4 → a' < 8 → told (g' * 8 + a') = oI (bcT T g t a g' a')) : ∀ g' a', g' < 4 → a' < 8 → upd told (g * 8 + a) (oI (t a)) (g' * 8 + a') = oI (bcT T g t (a + 1) g' a') := by
  intro g' a' h1 h2
  by_cases e : g' = g ∧ a' = a
  · rw [e.1, e.2, pk_us]
    unfold bcT
    rw [if_pos ⟨rfl, by omega⟩]
  · rw [pk_un (by omega), h g' a' h1 h2]
    unfold bcT
    by_cases e2 : g' = g ∧ a' < a
    · rw [if_pos e2, if_pos ⟨e2.1, by omega⟩]
    · rw [if_neg e2, if_neg (by omega)]
theorem bcT_stepM {told : Nat → Int32} {t : Nat → Nat} {g a : Nat} (hg : g < 4) (ha : a < 8) (h : ∀ g' a', g' < 4 → a' < 8 → told (g' * 8 + a') = nI (bcT T g t a g' a')) : ∀ g' a', g' < 4 → a' < 8 → upd told (g * 8 + a) (nI (t a)) (g' * 8 + a') = nI (bcT T g t (a + 1) g' a') := by
  intro g' a' h1 h2
  by_cases e : g' = g ∧ a' = a
  · rw [e.1, e.2, pk_us]
    unfold bcT
    rw [if_pos ⟨rfl, by omega⟩]
  · rw [pk_un (by omega), h g' a' h1 h2]
    unfold bcT
    by_cases e2 : g' = g ∧ a' < a
    · rw [if_pos e2, if_pos ⟨e2.1, by omega⟩]
    · rw [if_neg e2, if_neg (by omega)]
theorem bc_28 (hN : 40000 ≤ N) (hK : K ≤ 8) {cs cw : Nat → Int32} {c_aimed_askers : Int32} {c_aimed_places : Int32} {c_aimed_seatBits : Int32} {c_aimed_entries : Int32} {c_row : (Nat → Int32)} {c_aimed_best : (Nat → Int32)} {c_aimed_clipAll : (Nat → Int32)} {c_aimed_clipToOne : (Nat → Int32)} {c_aimed_clipToTwo : (Nat → Int32)} {c_aimed_firstOf : (Nat → Int32)} {c_aimed_gains : (Nat → Int32)} {c_aimed_left : (Nat → Int32)} {c_aimed_next : (Nat → Int32)} {c_aimed_solvedGains : (Nat → Int32)} {c_aimed_ways : (Nat → Int32)} {c_all_slots : (Nat → Int32)} {c_trade_gets : (Nat → Int32)} {c_trade_holderOf : (Nat → Int32)} {c_trade_holds : (Nat → Int32)} {c_trade_pointsAt : (Nat → Int32)} {c_trade_servedIn : (Nat → Int32)} {t : Nat → Nat} (hrow : RowIs K t c_row) {g : Nat} (hg : g < 4) :
    ∀ (n a : Nat) (told : Nat → Int32), a ≤ K → K - a < n → (∀ g' a', g' < 4 → a' < 8 → told (g' * 8 + a') = oI (bcT T g t a g' a')) → ∃ told', f_X7_become_28 N (nI K) (nI P) cs cw n c_aimed_askers c_aimed_places c_aimed_seatBits c_aimed_entries c_row c_aimed_best c_aimed_clipAll c_aimed_clipToOne c_aimed_clipToTwo c_aimed_firstOf c_aimed_gains c_aimed_left c_aimed_next c_aimed_solvedGains c_aimed_ways c_all_slots told c_trade_gets c_trade_holderOf c_trade_holds c_trade_pointsAt c_trade_servedIn (nI g) (nI a) = some (1, c_aimed_askers, c_aimed_places, c_aimed_seatBits, c_aimed_entries, c_row, c_aimed_best, c_aimed_clipAll, c_aimed_clipToOne, c_aimed_clipToTwo, c_aimed_firstOf, c_aimed_gains, c_aimed_left, c_aimed_next, c_aimed_solvedGains, c_aimed_ways, c_all_slots, told', c_trade_gets, c_trade_holderOf, c_trade_holds, c_trade_pointsAt, c_trade_servedIn) ∧ ∀ g' a', g' < 4 → a' < 8 → told' (g' * 8 + a') = oI (becT K T g t g' a') := by
  intro n
  induction n with
  | zero => intro a told h1 h2; omega
  | succ n ih =>
    intro a told ha hn h
    rw [f_X7_become_28]
    by_cases hc : K ≤ a
    · have : a = K := by omega
      subst this
      rw [if_pos (nI_le (Nat.le_refl _) (by omega))]
      exact ⟨told, rfl, h⟩
    · rw [if_neg (nI_ge (by omega) (by omega)), rdI_n _ (by omega) (by decide), bd, X0_tell_ok _ hg (by omega), bd, nI_1, hrow a (by omega)]
      exact ih (a + 1) _ (by omega) (by omega) (bcT_step hg (by omega) h)
theorem b8_112 (hN : 40000 ≤ N) (hK : K ≤ 8) {ms mw : Nat → Int32} {c_full : Int32} {c_cost : (Nat → Int64)} {c_found : (Nat → Int32)} {c_least : (Nat → Int64)} {c_points : (Nat → Int32)} {c_served : (Nat → Int32)} {c_weight : (Nat → Int32)} {t : Nat → Nat} (hrow : ∀ a, a < K → c_found a = nI (t a)) {g : Nat} (hg : g < 4) :
    ∀ (n a : Nat) (told : Nat → Int32), a ≤ K → K - a < n → (∀ g' a', g' < 4 → a' < 8 → told (g' * 8 + a') = nI (bcT T g t a g' a')) → ∃ told', f_X8_become_112 N (nI K) (nI P) ms mw n c_full c_cost c_found c_least c_points c_served told c_weight (nI g) (nI a) = some (1, c_full, c_cost, c_found, c_least, c_points, c_served, told', c_weight) ∧ ∀ g' a', g' < 4 → a' < 8 → told' (g' * 8 + a') = nI (becT K T g t g' a') := by
  intro n
  induction n with
  | zero => intro a told h1 h2; omega
  | succ n ih =>
    intro a told ha hn h
    rw [f_X8_become_112]
    by_cases hc : K ≤ a
    · have : a = K := by omega
      subst this
      rw [if_pos (nI_le (Nat.le_refl _) (by omega))]
      exact ⟨told, rfl, h⟩
    · rw [if_neg (nI_ge (by omega) (by omega)), rdI_n _ (by omega) (by decide), bd, ix8', wrI_n _ _ (by omega) (by decide), bd, nI_1, hrow a (by omega)]
      exact ih (a + 1) _ (by omega) (by omega) (bcT_stepM hg (by omega) h)
theorem b8_27 (hN : 40000 ≤ N) (hK : K ≤ 8) {ms mw : Nat → Int32} {c_full : Int32} {c_cost : (Nat → Int64)} {c_found : (Nat → Int32)} {c_least : (Nat → Int64)} {c_points : (Nat → Int32)} {c_served : (Nat → Int32)} {c_weight : (Nat → Int32)} {g h : Nat} (hg : g < 4) (hh : h < 4) :
    ∀ (n a : Nat) (told : Nat → Int32), a ≤ K → K - a < n → (∀ g' a', g' < 4 → a' < 8 → told (g' * 8 + a') = nI (bcT T g (T h) a g' a')) → ∃ told', f_X8_become_27 N (nI K) (nI P) ms mw n c_full c_cost c_found c_least c_points c_served told c_weight (nI g) (nI h) (nI a) = some (1, c_full, c_cost, c_found, c_least, c_points, c_served, told', c_weight) ∧ ∀ g' a', g' < 4 → a' < 8 → told' (g' * 8 + a') = nI (becT K T g (T h) g' a') := by
  intro n
  induction n with
  | zero => intro a told h1 h2; omega
  | succ n ih =>
    intro a told ha hn ht
    rw [f_X8_become_27]
    by_cases hc : K ≤ a
    · have : a = K := by omega
      subst this
      rw [if_pos (nI_le (Nat.le_refl _) (by omega))]
      exact ⟨told, rfl, ht⟩
    · have e : bcT T g (T h) a h a = T h a := by unfold bcT; rw [if_neg (by omega)]
      rw [if_neg (nI_ge (by omega) (by omega)), ix8', rdI_n _ (by omega) (by decide), bd, ix8', wrI_n _ _ (by omega) (by decide), bd, nI_1, ht h a hh (by omega), e]
      exact ih (a + 1) _ (by omega) (by omega) (bcT_stepM hg (by omega) ht)
theorem vRow_none {g : Nat} {rz : Int} {fz : Option Int} {a q : Nat} (h : W a q = 0) : vRow W T g rz fz a (q + 1) = none := by
  have e : wo W a (q + 1) = 8 := by unfold wo; simp only; rw [if_pos h]
  unfold vRow
  rw [e, if_pos (by decide)]
theorem wRow_none {f : Nat → Int} {a q : Nat} (h : W a q = 0) : wRow f W a (q + 1) = none := by
  have e : wo W a (q + 1) = 8 := by unfold wo; simp only; rw [if_pos h]
  unfold wRow
  rw [e, if_pos (by decide)]
/-- what a told giving becomes -/
def becRow (K P : Nat) (S : Nat → Nat) (W T : Nat → Nat → Nat) (g what : Nat) (fo : Nat → Nat) : Nat → Nat :=
  if what < 4 then T what else if what < 7 then nthT P (rf (wRow (gW what) W) 0 K) S 0 else if what = 7 then nthT P (rf (vRow W T g 1 (some (-1))) 0 K) S 0 else if what = 8 then nthT P (rf (vRow W T g 1 none) 0 K) S 0 else fo
theorem call_become (hG : GD K P S W T) (hN : 40000 ≤ N) {x y : Int32} {c_full : Int32} {c_cost : Nat → Int64} {c_found : Nat → Int32} {c_least : Nat → Int64} {c_points : Nat → Int32} {c_served : Nat → Int32} {c_weight : Nat → Int32} {c_aimed_askers : Int32} {c_aimed_places : Int32} {c_aimed_seatBits : Int32} {c_aimed_entries : Int32} {c_row : Nat → Int32} {c_aimed_best : Nat → Int32} {c_aimed_clipAll : Nat → Int32} {c_aimed_clipToOne : Nat → Int32} {c_aimed_clipToTwo : Nat → Int32} {c_aimed_firstOf : Nat → Int32} {c_aimed_gains : Nat → Int32} {c_aimed_left : Nat → Int32} {c_aimed_next : Nat → Int32} {c_aimed_solvedGains : Nat → Int32} {c_aimed_ways : Nat → Int32} {c_all_slots : Nat → Int32} {c_trade_gets : Nat → Int32} {c_trade_holderOf : Nat → Int32} {c_trade_holds : Nat → Int32} {c_trade_pointsAt : Nat → Int32} {c_trade_servedIn : Nat → Int32} (hv : SV c_aimed_askers c_aimed_places c_aimed_seatBits c_aimed_best c_aimed_next c_aimed_solvedGains c_aimed_ways) : ∀ {ca cp ma mp : Int32} {cs cl ct cw ms mw mt : Nat → Int32}, SB K P S W T ca cp cs cl ct cw → RepM K P S W T ma mp ms mw mt →
    ∃ r T' ca' cp' sb' ce' row' best' clA' clO' clT' fo' g' left' next' sg' ways' slots' told' gets' ho' holds' pts' served' full' cost' found' least' points' servedM' toldM' weight', f_X7_become N ca cp cs cw c_aimed_askers c_aimed_places c_aimed_seatBits c_aimed_entries c_row c_aimed_best c_aimed_clipAll c_aimed_clipToOne c_aimed_clipToTwo c_aimed_firstOf c_aimed_gains c_aimed_left c_aimed_next c_aimed_solvedGains c_aimed_ways c_all_slots ct c_trade_gets c_trade_holderOf c_trade_holds c_trade_pointsAt c_trade_servedIn x y = some (r, ca', cp', sb', ce', row', best', clA', clO', clT', fo', g', left', next', sg', ways', slots', told', gets', ho', holds', pts', served') ∧
      f_X8_become N ma mp ms mw c_full c_cost c_found c_least c_points c_served mt c_weight x y = some (r, full', cost', found', least', points', servedM', toldM', weight') ∧ SV ca' cp' sb' best' next' sg' ways' ∧ GD K P S W T' ∧ SB K P S W T' ca cp cs cl told' cw ∧ RepM K P S W T' ma mp ms mw toldM' := by
  intro ca cp ma mp cs cl ct cw ms mw mt hB hM
  have hB0 := hB
  have hM0 := hM
  obtain ⟨⟨e1, e2, b3, b4, b5⟩, hl⟩ := hB
  obtain ⟨m1, m2, m3, m4, m5⟩ := hM
  have hP := hG.P6
  have hK := hG.K8
  subst e1; subst m1; subst e2; subst m2
  unfold f_X7_become f_X8_become
  rw [X7_isTold_ok, X8_isTold_ok, bd, bd]
  have same : ∃ r T' ca' cp' sb' ce' row' best' clA' clO' clT' fo' g' left' next' sg' ways' slots' told' gets' ho' holds' pts' served' full' cost' found' least' points' servedM' toldM' weight', some ((-2 : Int32), c_aimed_askers, c_aimed_places, c_aimed_seatBits, c_aimed_entries, c_row, c_aimed_best, c_aimed_clipAll, c_aimed_clipToOne, c_aimed_clipToTwo, c_aimed_firstOf, c_aimed_gains, c_aimed_left, c_aimed_next, c_aimed_solvedGains, c_aimed_ways, c_all_slots, ct, c_trade_gets, c_trade_holderOf, c_trade_holds, c_trade_pointsAt, c_trade_servedIn) = some (r, ca', cp', sb', ce', row', best', clA', clO', clT', fo', g', left', next', sg', ways', slots', told', gets', ho', holds', pts', served') ∧
      some ((-2 : Int32), c_full, c_cost, c_found, c_least, c_points, c_served, mt, c_weight) = some (r, full', cost', found', least', points', servedM', toldM', weight') ∧ SV ca' cp' sb' best' next' sg' ways' ∧ GD K P S W T' ∧ SB K P S W T' (nI K) (nI P) cs cl told' cw ∧ RepM K P S W T' (nI K) (nI P) ms mw toldM' :=
    ⟨_, T, _, _, _, _, _, _, _, _, _, _, _, _, _, _, _, _, _, _, _, _, _, _, _, _, _, _, _, _, _, _, rfl, rfl, hv, hG, hB0, hM0⟩
  by_cases hx : isM 4 x
  · rw [if_pos hx, if_neg one_ne, if_neg one_ne, X8_in_ok, bd, ti0]
    have ti9 : (9 : Int32).toInt = 9 := by decide
    rw [ti9]
    by_cases hy : 0 ≤ y.toInt ∧ y.toInt ≤ 9
    · obtain ⟨g, hg, rfl⟩ := isM_ex hx
      obtain ⟨what, hwh, rfl⟩ := small_ex (x := y) (n := 9) hy.1 hy.2
      rw [if_pos hy, if_neg one_ne, if_neg (nI_pos (by omega)), if_pos (show nI what ≤ 9 from nI_le (b := 9) hwh (by decide))]
      -- from here on: a row found by both
      have fin : ∀ (t : Nat → Nat) ca' cp' sb' ce' row' best' clA' clO' clT' fo' g' left' next' sg' ways' slots' gets' ho' holds' pts' served', RowIs K t row' → GD K P S W (becT K T g t) → SV ca' cp' sb' best' next' sg' ways' →
          f_X7_findRow N (nI K) (nI P) cs ct cw c_aimed_askers c_aimed_places c_aimed_seatBits c_aimed_entries c_row c_aimed_best c_aimed_clipAll c_aimed_clipToOne c_aimed_clipToTwo c_aimed_firstOf c_aimed_gains c_aimed_left c_aimed_next c_aimed_solvedGains c_aimed_ways c_all_slots c_trade_gets c_trade_holderOf c_trade_holds c_trade_pointsAt c_trade_servedIn (nI g) (nI what) = some (ca', cp', sb', ce', row', best', clA', clO', clT', fo', g', left', next', sg', ways', slots', gets', ho', holds', pts', served') →
          (∃ full' cost' found' least' points' servedM' toldM' weight', (if 4 ≤ nI what then (if 7 ≤ nI what then (if 9 ≤ nI what then (f_X8_findTrade N (nI K) mt mw c_found c_points c_served (nI g)).bind fun (o10, o11, o12) => f_X8_become_110 N (nI K) (nI P) ms mw c_full c_cost o10 c_least o11 o12 mt c_weight (nI g) else (if nI what = 8 then f_X8_become_98 N (nI K) (nI P) ms mw c_full c_cost c_found c_least c_points c_served mt c_weight (nI g) (nI g) 1 else f_X8_become_98 N (nI K) (nI P) ms mw c_full c_cost c_found c_least c_points c_served mt c_weight (nI g) (nI g) 0)) else (f_X8_findBy N (nI K) (nI P) ms mw c_full c_cost c_found c_least c_weight (nI what)).bind fun (o15, o16, o17, o18, o19) => f_X8_become_110 N (nI K) (nI P) ms mw o15 o16 o17 o18 c_points c_served mt o19 (nI g)) else f_X8_become_27 N (nI K) (nI P) ms mw N c_full c_cost c_found c_least c_points c_served mt c_weight (nI g) (nI what) 0) = some (1, full', cost', found', least', points', servedM', toldM', weight') ∧ ∀ g' a', g' < 4 → a' < 8 → toldM' (g' * 8 + a') = nI (becT K T g t g' a')) →
          ∃ r T' ca' cp' sb' ce' row' best' clA' clO' clT' fo' g' left' next' sg' ways' slots' told' gets' ho' holds' pts' served' full' cost' found' least' points' servedM' toldM' weight', (f_X7_findRow N (nI K) (nI P) cs ct cw c_aimed_askers c_aimed_places c_aimed_seatBits c_aimed_entries c_row c_aimed_best c_aimed_clipAll c_aimed_clipToOne c_aimed_clipToTwo c_aimed_firstOf c_aimed_gains c_aimed_left c_aimed_next c_aimed_solvedGains c_aimed_ways c_all_slots c_trade_gets c_trade_holderOf c_trade_holds c_trade_pointsAt c_trade_servedIn (nI g) (nI what)).bind (fun (o6, o7, o8, o9, o10, o11, o12, o13, o14, o15, o16, o17, o18, o19, o20, o21, o22, o23, o24, o25, o26) => f_X7_become_28 N (nI K) (nI P) cs cw N o6 o7 o8 o9 o10 o11 o12 o13 o14 o15 o16 o17 o18 o19 o20 o21 ct o22 o23 o24 o25 o26 (nI g) 0) = some (r, ca', cp', sb', ce', row', best', clA', clO', clT', fo', g', left', next', sg', ways', slots', told', gets', ho', holds', pts', served') ∧
            (if 4 ≤ nI what then (if 7 ≤ nI what then (if 9 ≤ nI what then (f_X8_findTrade N (nI K) mt mw c_found c_points c_served (nI g)).bind fun (o10, o11, o12) => f_X8_become_110 N (nI K) (nI P) ms mw c_full c_cost o10 c_least o11 o12 mt c_weight (nI g) else (if nI what = 8 then f_X8_become_98 N (nI K) (nI P) ms mw c_full c_cost c_found c_least c_points c_served mt c_weight (nI g) (nI g) 1 else f_X8_become_98 N (nI K) (nI P) ms mw c_full c_cost c_found c_least c_points c_served mt c_weight (nI g) (nI g) 0)) else (f_X8_findBy N (nI K) (nI P) ms mw c_full c_cost c_found c_least c_weight (nI what)).bind fun (o15, o16, o17, o18, o19) => f_X8_become_110 N (nI K) (nI P) ms mw o15 o16 o17 o18 c_points c_served mt o19 (nI g)) else f_X8_become_27 N (nI K) (nI P) ms mw N c_full c_cost c_found c_least c_points c_served mt c_weight (nI g) (nI what) 0) = some (r, full', cost', found', least', points', servedM', toldM', weight') ∧ SV ca' cp' sb' best' next' sg' ways' ∧ GD K P S W T' ∧ SB K P S W T' (nI K) (nI P) cs cl told' cw ∧ RepM K P S W T' (nI K) (nI P) ms mw toldM' := by
        intro t ca' cp' sb' ce' row' best' clA' clO' clT' fo' g' left' next' sg' ways' slots' gets' ho' holds' pts' served' hrow hGt hsv hfr ⟨full', cost', found', least', points', servedM', toldM', weight', f1, f2⟩
        obtain ⟨told', t1, t2⟩ := bc_28 (N := N) (P := P) (T := T) (cs := cs) (cw := cw) (c_aimed_askers := ca') (c_aimed_places := cp') (c_aimed_seatBits := sb') (c_aimed_entries := ce') (c_row := row') (c_aimed_best := best') (c_aimed_clipAll := clA') (c_aimed_clipToOne := clO') (c_aimed_clipToTwo := clT') (c_aimed_firstOf := fo') (c_aimed_gains := g') (c_aimed_left := left') (c_aimed_next := next') (c_aimed_solvedGains := sg') (c_aimed_ways := ways') (c_all_slots := slots') (c_trade_gets := gets') (c_trade_holderOf := ho') (c_trade_holds := holds') (c_trade_pointsAt := pts') (c_trade_servedIn := served') hN hK hrow hg N 0 ct (Nat.zero_le _) (by omega) (fun g' a' h1 h2 => by unfold bcT; rw [if_neg (by omega)]; exact b5 g' a' h1 h2)
        rw [hfr, bd, f1]
        exact ⟨1, becT K T g t, ca', cp', sb', ce', row', best', clA', clO', clT', fo', g', left', next', sg', ways', slots', told', gets', ho', holds', pts', served', full', cost', found', least', points', servedM', toldM', weight', t1, rfl, hsv, hGt, ⟨⟨rfl, rfl, b3, b4, t2⟩, hl⟩, ⟨rfl, rfl, m3, m4, f2⟩⟩
      have m5b : ∀ t, ∀ g' a', g' < 4 → a' < 8 → mt (g' * 8 + a') = nI (bcT T g t 0 g' a') := fun t g' a' h1 h2 => by unfold bcT; rw [if_neg (by omega)]; exact m5 g' a' h1 h2
      have q4 : (4 ≤ nI what) = (4 ≤ what) := q_4le (by omega)
      have q7 : (7 ≤ nI what) = (7 ≤ what) := q_7le (by omega)
      have q9 : (9 ≤ nI what) = (9 ≤ what) := q_le (a := 9) (by decide) (by omega)
      have qe : ∀ k : Nat, k < 2 ^ 31 → (nI what = nI k) = (what = k) := fun k hk => q_eq (by omega) hk
      rcases Nat.lt_or_ge what 4 with h4 | h4
      · -- as another one is
        obtain ⟨row', r1, r2⟩ := X7_copyTold_ok (N := N) hN hK b5 h4 c_row
        obtain ⟨toldM', u1, u2⟩ := b8_27 (N := N) (P := P) (T := T) (ms := ms) (mw := mw) (c_full := c_full) (c_cost := c_cost) (c_found := c_found) (c_least := c_least) (c_points := c_points) (c_served := c_served) (c_weight := c_weight) hN hK hg h4 N 0 mt (Nat.zero_le _) (by omega) (m5b (T what))
        refine fin (T what) c_aimed_askers c_aimed_places c_aimed_seatBits c_aimed_entries row' c_aimed_best c_aimed_clipAll c_aimed_clipToOne c_aimed_clipToTwo c_aimed_firstOf c_aimed_gains c_aimed_left c_aimed_next c_aimed_solvedGains c_aimed_ways c_all_slots c_trade_gets c_trade_holderOf c_trade_holds c_trade_pointsAt c_trade_servedIn r2 (GD_bec hG hg (fun a _ => hG.TP what a) (fun a q _ h => hG.TW what a q h) (hG.TS what)) hv ?_ ?_
        · unfold f_X7_findRow
          rw [if_neg (show ¬ nI what = (4 : Int32) from nI_ne (b := 4) (by omega) (by decide) (by omega)), if_neg (show ¬ nI what = (5 : Int32) from nI_ne (b := 5) (by omega) (by decide) (by omega)), if_neg (show ¬ nI what = (6 : Int32) from nI_ne (b := 6) (by omega) (by decide) (by omega)), if_neg (show ¬ nI what = (7 : Int32) from nI_ne (b := 7) (by omega) (by decide) (by omega)), if_neg (show ¬ nI what = (8 : Int32) from nI_ne (b := 8) (by omega) (by decide) (by omega)), if_neg (show ¬ nI what = (9 : Int32) from nI_ne (b := 9) (by omega) (by decide) (by omega)), r1, bd]
        · simp only [q4, if_neg (show ¬ 4 ≤ what by omega)]
          exact ⟨_, _, _, _, _, _, toldM', _, u1, u2⟩
      · rcases Nat.lt_or_ge what 7 with h7 | h7
        · -- by worth
          obtain ⟨ca', cp', sb', ce', row', best', clA', clO', clT', fo', g', left', next', sg', ways', slots', w1, w2, w3⟩ := X7_findByWorth_ok (N := N) hN hG h4 (show what ≤ 6 by omega) b3 b4 (c_aimed_entries := c_aimed_entries) (c_row := c_row) (c_aimed_clipAll := c_aimed_clipAll) (c_aimed_clipToOne := c_aimed_clipToOne) (c_aimed_clipToTwo := c_aimed_clipToTwo) (c_aimed_firstOf := c_aimed_firstOf) (c_aimed_gains := c_aimed_gains) (c_aimed_left := c_aimed_left) (c_all_slots := c_all_slots) hv
          obtain ⟨full', cost', found', least', weight', x1, x2⟩ := X8_findBy_ok (N := N) hN hG h4 (show what ≤ 6 by omega) m3 m4 (c_full := c_full) (c_cost := c_cost) (c_found := c_found) (c_least := c_least) (c_weight := c_weight)
          rw [← byworth_same hG h4 (show what ≤ 6 by omega)] at x2
          obtain ⟨B, M, v1⟩ := worth_some (gW what) W S K P
          obtain ⟨toldM', u1, u2⟩ := b8_112 (N := N) (P := P) (T := T) (ms := ms) (mw := mw) (c_full := full') (c_cost := cost') (c_least := least') (c_points := c_points) (c_served := c_served) (c_weight := weight') hN hK x2 hg N 0 mt (Nat.zero_le _) (by omega) (m5b _)
          refine fin _ ca' cp' sb' ce' row' best' clA' clO' clT' fo' g' left' next' sg' ways' slots' c_trade_gets c_trade_holderOf c_trade_holds c_trade_pointsAt c_trade_servedIn w2 (GD_nth hG hg (fun a q h => wRow_none h) v1 (bw_pos P _ _ _ _ v1)) w3 ?_ ?_
          · unfold f_X7_findRow
            have hc : what = 4 ∨ what = 5 ∨ what = 6 := by omega
            rcases hc with rfl | rfl | rfl
            · rw [if_pos (by decide), show ro_FIRSTS_GAINS = tabG 4 from rfl, w1, bd]
            · rw [if_neg (by decide), if_pos (by decide), show ro_FAIREST_GAINS = tabG 5 from rfl, w1, bd]
            · rw [if_neg (by decide), if_neg (by decide), if_pos (by decide), show ro_MOST_GAINS = tabG 6 from rfl, w1, bd]
          · simp only [q4, if_pos h4, q7, if_neg (show ¬ 7 ≤ what by omega)]
            rw [x1, bd]
            exact ⟨_, _, _, _, _, _, toldM', _, u1, u2⟩
        · rcases Nat.lt_or_ge what 9 with h9 | h9
          · -- beater, better
            obtain ⟨nb, hnb⟩ : ∃ nb : Bool, what = if nb then 8 else 7 := by
              rcases Nat.lt_or_ge what 8 with z | z
              · exact ⟨false, by simp; omega⟩
              · exact ⟨true, by simp; omega⟩
            obtain ⟨ce', best', clA', clO', clT', fo', g', left', next', sg', ways', slots', s1, s2, s3, s4, s5⟩ := X7_solveVotes_ok (rz := 1) (fz := if nb then none else some (-1)) hN hG b3 b4 b5 hg small1 small_nb (c_aimed_entries := c_aimed_entries) (c_aimed_clipAll := c_aimed_clipAll) (c_aimed_clipToOne := c_aimed_clipToOne) (c_aimed_clipToTwo := c_aimed_clipToTwo) (c_aimed_firstOf := c_aimed_firstOf) (c_aimed_gains := c_aimed_gains) (c_aimed_left := c_aimed_left) (c_all_slots := c_all_slots) hv
            obtain ⟨B, M, v1, v2⟩ := votes_some (g := g) (rz := 1) (fz := if nb then none else some (-1)) hG
            obtain ⟨u1, u2, u3⟩ := rows_b31 hK hP s2 s3 v1
            obtain ⟨full', cost', found', least', weight', f1, f2⟩ := X8_findBeater_ok (nb := nb) hN hG m3 m4 m5 hg v1 u2 (c_full := c_full) (c_cost := c_cost) (c_found := c_found) (c_least := c_least) (c_weight := c_weight)
            obtain ⟨row', p1, p2⟩ := pathTo_ok (N := N) hN hK hP s3 s4 s5 u1 u3 c_row
            rw [nthT_rows s2] at p2
            rw [show zI 1 = 1 from rfl, fI_nb] at s1
            obtain ⟨toldM', t1, t2⟩ := b8_112 (N := N) (P := P) (T := T) (ms := ms) (mw := mw) (c_full := full') (c_cost := cost') (c_least := least') (c_points := c_points) (c_served := c_served) (c_weight := weight') hN hK f2 hg N 0 mt (Nat.zero_le _) (by omega) (m5b _)
            refine fin _ (nI K) (nI P) (nI (e4 S P)) ce' row' best' clA' clO' clT' fo' g' left' next' sg' ways' slots' c_trade_gets c_trade_holderOf c_trade_holds c_trade_pointsAt c_trade_servedIn p2 (GD_nth hG hg (fun a q h => vRow_none h) v1 (bw_pos P _ _ _ _ v1)) (SV_of hK hP hG.S3 s3 s4 s5) ?_ ?_
            · unfold f_X7_findRow
              cases nb with
              | false =>
                have hw : what = 7 := hnb
                subst hw
                have s1' : f_X7_solveVotes N (nI K) (nI P) cs ct cw c_aimed_askers c_aimed_places c_aimed_seatBits c_aimed_entries c_aimed_best c_aimed_clipAll c_aimed_clipToOne c_aimed_clipToTwo c_aimed_firstOf c_aimed_gains c_aimed_left c_aimed_next c_aimed_solvedGains c_aimed_ways c_all_slots (nI g) 1 (-1 : Int32) = _ := s1
                rw [if_neg (by decide), if_neg (by decide), if_neg (by decide), if_pos (by decide), s1', bd]
                simp only
                rw [show (0 : Int32) = nI 0 from rfl, p1, bd]
              | true =>
                have hw : what = 8 := hnb
                subst hw
                have s1' : f_X7_solveVotes N (nI K) (nI P) cs ct cw c_aimed_askers c_aimed_places c_aimed_seatBits c_aimed_entries c_aimed_best c_aimed_clipAll c_aimed_clipToOne c_aimed_clipToTwo c_aimed_firstOf c_aimed_gains c_aimed_left c_aimed_next c_aimed_solvedGains c_aimed_ways c_all_slots (nI g) 1 (-2000000000 : Int32) = _ := s1
                rw [if_neg (by decide), if_neg (by decide), if_neg (by decide), if_neg (by decide), if_pos (by decide), s1', bd]
                simp only
                rw [show (0 : Int32) = nI 0 from rfl, p1, bd]
            · simp only [q4, if_pos h4, q7, if_pos h7, q9, if_neg (show ¬ 9 ≤ what by omega)]
              cases nb with
              | false =>
                have hw : what = 7 := hnb
                subst hw
                have f1' : f_X8_findBeater N (nI K) (nI P) ms mt mw c_full c_cost c_found c_least c_weight (nI g) 0 = _ := f1
                unfold f_X8_become_98
                rw [if_neg (by decide), f1', bd]
                exact ⟨_, _, _, _, _, _, toldM', _, t1, t2⟩
              | true =>
                have hw : what = 8 := hnb
                subst hw
                have f1' : f_X8_findBeater N (nI K) (nI P) ms mt mw c_full c_cost c_found c_least c_weight (nI g) 1 = _ := f1
                unfold f_X8_become_98
                rw [if_pos (by decide), f1', bd]
                exact ⟨_, _, _, _, _, _, toldM', _, t1, t2⟩
          · -- trade
            have hw : what = 9 := by omega
            subst hw
            obtain ⟨fo, sv, gets', ho', holds', pts', served', found', points', servedM', t1, t2, t3, t4, t5, t6, t7⟩ := trade_ok (N := N) hN hG hg b5 m5 b4 m4 c_trade_gets c_trade_holderOf c_trade_holds c_trade_pointsAt c_trade_servedIn c_found c_points c_served
            obtain ⟨toldM', u1, u2⟩ := b8_112 (N := N) (P := P) (T := T) (ms := ms) (mw := mw) (c_full := c_full) (c_cost := c_cost) (c_least := c_least) (c_points := points') (c_served := servedM') (c_weight := c_weight) hN hK t5 hg N 0 mt (Nat.zero_le _) (by omega) (m5b fo)
            have hrow : RowIs K fo (va_cpy gets' c_row (0 : Int32).toNatClampNeg (0 : Int32).toNatClampNeg (8 : Int32).toNatClampNeg) := by
              intro a ha
              have e0 : (0 : Int32).toNatClampNeg = 0 := by decide
              have e8 : (8 : Int32).toNatClampNeg = 8 := by decide
              rw [e0, e8, pk_cpy_in (Nat.zero_le _) (by omega), Nat.zero_add, Nat.sub_zero]
              exact t3 a ha
            refine fin fo c_aimed_askers c_aimed_places c_aimed_seatBits c_aimed_entries _ c_aimed_best c_aimed_clipAll c_aimed_clipToOne c_aimed_clipToTwo c_aimed_firstOf c_aimed_gains c_aimed_left c_aimed_next c_aimed_solvedGains c_aimed_ways c_all_slots gets' ho' holds' pts' served' hrow t7 hv ?_ ?_
            · unfold f_X7_findRow
              rw [if_neg (by decide), if_neg (by decide), if_neg (by decide), if_neg (by decide), if_neg (by decide), if_pos (by decide), t1, bd]
            · simp only [q4, if_pos h4, q7, if_pos h7, q9, if_pos h9]
              rw [t2, bd]
              exact ⟨_, _, _, _, _, _, toldM', _, u1, u2⟩
    · rw [if_neg hy, if_pos rfl]
      simp only [Int32.lt_iff_toInt_lt, Int32.le_iff_toInt_le, ti0, ti9]
      by_cases h0 : y.toInt < 0
      · rw [if_pos h0]; exact same
      · rw [if_neg h0, if_neg (by omega)]; exact same
  · rw [if_neg hx, if_pos rfl, if_pos rfl]
    exact same
end BECOME
