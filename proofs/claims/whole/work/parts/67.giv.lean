/-! givings, givingAt, placeOf: both sides -/
section GIV
variable {N K P : Nat} {S : Nat → Nat} {W T : Nat → Nat → Nat} {seats wish : Nat → Int32}
theorem lNlt {a b : Nat} (ha : a < 2 ^ 31) (hb : b < 2 ^ 31) : (lN a < lN b) = (a < b) := propext (lN_lt ha hb)
theorem zn_agree (hP : P ≤ 6) {a : Nat} {σ σ' : Sv} (h : ∀ q, q < P → σ q = σ' q) : zn P K W a σ = zn P K W a σ' := by
  unfold zn
  rw [bw_clip P (zF K W a) σ σ' (fun q hq => by rw [h q hq])]
theorem ga_60 (hN : 40000 ≤ N) (hK : K ≤ 8) (hP : P ≤ 6) (hs : ∀ q, q < 6 → seats q = nI (S q)) (hS : ∀ q, q < 6 → S q ≤ 3) (hW : ∀ a q, W a q ≤ 6) (hw : ∀ a q, a < 8 → q < 6 → wish (a * 6 + q) = nI (W a q)) {weight : Nat → Int32} (hwt : ∀ j, j < P → weight j = nI (wgt S j))
    {count : Nat → Int64} {full : Int32} {a s : Nat} (ha : a < K) (hs4 : s < wgt S P) (hT : CT P K S W count (a + 1)) (k47 : Int32 → (Nat → Int64) → (Nat → Int32) → (Nat → Int32) → Int32 → Int64 → Int32 → Int32 → Option (Int32 × Int32 × (Nat → Int64) × (Nat → Int32) × (Nat → Int32))) {found : Nat → Int32} {v3 : Int32} :
    ∀ (n o i : Nat), o ≤ P → P + 1 - o < n → i < 5764801 → (sl (zw P K W a (dig S s)) (P - o) o i).2 < zw P K W a (dig S s) (sl (zw P K W a (dig S s)) (P - o) o i).1 →
      ∃ t, tkS S W a (sl (zw P K W a (dig S s)) (P - o) o i).1 s = some t ∧ (sl (zw P K W a (dig S s)) (P - o) o i).1 ≤ P ∧
        f_X8_givingAt_60 N (nI K) (nI P) seats wish k47 n full count found weight v3 (lN i) (nI s) (nI a) (nI o) (oN (tkS S W a o s)) = k47 full count (upd found a (nI (sl (zw P K W a (dig S s)) (P - o) o i).1)) weight v3 (lN (sl (zw P K W a (dig S s)) (P - o) o i).2) (nI t) (nI (a + 1)) := by
  have hW6 := wgt_le6 S hS hP
  intro n
  induction n with
  | zero => intro o i h1 h2; omega
  | succ n ih =>
    intro o i ho hn hi hpos
    rw [f_X8_givingAt_60]
    have hz := zw_tkS (K := K) (S := S) (W := W) (o := o) (s := s) hP ha
    -- the next option
    have hnext : ∀ i', ¬ i < zw P K W a (dig S s) o → i' = i - zw P K W a (dig S s) o → ∃ t, tkS S W a (sl (zw P K W a (dig S s)) (P - o) o i).1 s = some t ∧ (sl (zw P K W a (dig S s)) (P - o) o i).1 ≤ P ∧
        f_X8_givingAt_116 N (nI K) (nI P) seats wish (f_X8_givingAt_60 N (nI K) (nI P) seats wish k47 n) full count found weight v3 (nI s) (nI a) (nI o) (lN i) (lN (zw P K W a (dig S s) o)) = k47 full count (upd found a (nI (sl (zw P K W a (dig S s)) (P - o) o i).1)) weight v3 (lN (sl (zw P K W a (dig S s)) (P - o) o i).2) (nI t) (nI (a + 1)) := by
      intro i' hni hi'
      by_cases hoP : o = P
      · subst hoP
        rw [Nat.sub_self] at hpos
        exact absurd hpos hni
      · have e : sl (zw P K W a (dig S s)) (P - o) o i = sl (zw P K W a (dig S s)) (P - (o + 1)) (o + 1) i' := by
          rw [show P - o = P - (o + 1) + 1 by omega, sl, if_neg hni, hi']
        rw [e] at hpos ⊢
        unfold f_X8_givingAt_116
        rw [nI_1, X8_takes_ok N hP hs hS hW hw hwt (by omega) (by omega) (by omega), bd, lN_sub (by omega), ← hi']
        exact ih (o + 1) i' (by omega) (by omega) (by omega) hpos
    cases ht : tkS S W a o s with
    | none =>
      rw [ht] at hz
      simp only at hz
      unfold oN
      simp only
      rw [if_pos trivial]
      unfold f_X8_givingAt_88
      rw [if_pos rfl]
      have := hnext (i - zw P K W a (dig S s) o) (by omega) rfl
      rw [hz] at this
      exact this
    | some t =>
      rw [ht] at hz
      simp only at hz
      have hts := tkS_le ht
      have hzl := zn_le (W := W) hP (dig S t) (show a + 1 ≤ K by omega) hK
      unfold oN
      simp only
      rw [if_neg (nI_neg1 (by omega)), nI_1, ixW, rdL_n _ (by omega) (by decide), bd, hT t (by omega), ← hz]
      by_cases hlt : i < zw P K W a (dig S s) o
      · have e : sl (zw P K W a (dig S s)) (P - o) o i = (o, i) := by
          rcases Nat.eq_or_lt_of_le ho with z | z
          · rw [show P - o = 0 by omega]; rfl
          · rw [show P - o = P - (o + 1) + 1 by omega, sl, if_pos hlt]
        rw [e, if_pos ((lN_lt (by omega) (by omega)).mpr hlt), wrI_n _ _ (by omega) (by decide), bd]
        exact ⟨t, ht, ho, rfl⟩
      · rw [if_neg (fun z => hlt ((lN_lt (by omega) (by omega)).mp z))]
        unfold f_X8_givingAt_88
        rw [if_neg (nI_neg1 (by omega)), nI_1, ixW, rdL_n _ (by omega) (by decide), bd, hT t (by omega), ← hz]
        exact hnext (i - zw P K W a (dig S s) o) hlt rfl
theorem zw_nth (hP : P ≤ 6) {a : Nat} (ha : a < K) (σ : Sv) (i : Nat) : nth P (zF K W a) σ i = (sl (zw P K W a σ) P 0 i).1 :: (match tk σ (sl (zw P K W a σ) P 0 i).1 with
      | none => []
      | some σ' => nth P (zF K W (a + 1)) σ' (sl (zw P K W a σ) P 0 i).2) := by
  have e := z_bw' (W := W) hP σ (show a ≤ K by omega)
  rw [zF_cons ha] at e
  rw [zF_cons ha, nth, e]
  rfl
theorem ga_47 (hN : 40000 ≤ N) (hK : K ≤ 8) (hP : P ≤ 6) (hs : ∀ q, q < 6 → seats q = nI (S q)) (hS : ∀ q, q < 6 → S q ≤ 3) (hW : ∀ a q, W a q ≤ 6) (hw : ∀ a q, a < 8 → q < 6 → wish (a * 6 + q) = nI (W a q)) {weight : Nat → Int32} (hwt : ∀ j, j < P → weight j = nI (wgt S j))
    {count : Nat → Int64} {full : Int32} (hT : ∀ b, b ≤ K → CT P K S W count b) {x : Nat} (hx : x < K) :
    ∀ (m n a s i : Nat) (found : Nat → Int32), x + 1 = a + m → m < n → s < wgt S P → i < zn P K W a (dig S s) →
      ∃ found', f_X8_givingAt_47 N (nI K) (nI P) seats wish n full count found weight (nI x) (lN i) (nI s) (nI a) = some (found' x - 1, full, count, found', weight) ∧ (∀ j, j < a → found' j = found j) ∧ ∀ j, j < m → found' (a + j) = nI ((nth P (zF K W a) (dig S s) i).getD j 0) := by
  have hW6 := wgt_le6 S hS hP
  intro m
  induction m with
  | zero =>
    intro n a s i found hk hn hs4 hi
    obtain ⟨n, rfl⟩ : ∃ n', n = n' + 1 := ⟨n - 1, by omega⟩
    rw [f_X8_givingAt_47, if_pos (nI_lt (by omega) (by omega)), rdI_n _ (by omega) (by decide), bd]
    exact ⟨found, rfl, fun _ _ => rfl, fun j hj => absurd hj (Nat.not_lt_zero _)⟩
  | succ m ih =>
    intro n a s i found hk hn hs4 hi
    obtain ⟨n, rfl⟩ : ∃ n', n = n' + 1 := ⟨n - 1, by omega⟩
    have ha : a < K := by omega
    have hzl := zn_le (W := W) hP (dig S s) (show a ≤ K by omega) hK
    have hst := zn_step (W := W) hP (dig S s) ha
    obtain ⟨-, s2, s3, -⟩ := sl_spec (zw P K W a (dig S s)) P 0 i (by rw [show 0 + P + 1 = P + 1 from by omega, ← hst]; show 0 + i < _; omega)
    obtain ⟨t, t1, t2, t3⟩ := ga_60 (N := N) hN hK hP hs hS hW hw hwt (full := full) ha hs4 (hT (a + 1) (by omega)) (f_X8_givingAt_47 N (nI K) (nI P) seats wish n) (found := found) (v3 := nI x) N 0 i (Nat.zero_le _) (by omega) (by omega) (by rw [Nat.sub_zero]; exact s3)
    rw [Nat.sub_zero] at t1 t2 t3
    rw [f_X8_givingAt_47, if_neg (nI_nlt (by omega) (by omega))]
    have e0 : f_X8_givingAt_60 N (nI K) (nI P) seats wish (f_X8_givingAt_47 N (nI K) (nI P) seats wish n) N full count found weight (nI x) (lN i) (nI s) (nI a) 0 (nI s) = f_X8_givingAt_60 N (nI K) (nI P) seats wish (f_X8_givingAt_47 N (nI K) (nI P) seats wish n) N full count found weight (nI x) (lN i) (nI s) (nI a) (nI 0) (oN (tkS S W a 0 s)) := rfl
    rw [e0, t3, zw_nth hP ha]
    have hz := zw_tkS (K := K) (S := S) (W := W) (o := (sl (zw P K W a (dig S s)) P 0 i).1) (s := s) hP ha
    rw [t1] at hz
    simp only at hz
    generalize sl (zw P K W a (dig S s)) P 0 i = z at *
    obtain ⟨o, i'⟩ := z
    simp only at *
    have htk : tk (dig S s) o = some (dig S t) := by
      cases o with
      | zero => unfold tkS at t1; simp only at t1; cases t1; rfl
      | succ q =>
        have hwq : 0 < W a q := by
          unfold tkS at t1
          simp only at t1
          split at t1
          · rename_i h; exact h.1
          · cases t1
        have := tkS_tk (S := S) (W := W) (a := a) (o := q + 1) (s := s) (fun p hp => by rw [show p = q by omega]; exact hwq)
        rw [t1] at this
        exact this
    rw [htk]
    obtain ⟨found', g1, g2, g3⟩ := ih n (a + 1) t i' (upd found a (nI o)) (by omega) (by omega) (by have := tkS_le t1; omega) (by omega)
    refine ⟨found', g1, fun j hj => by rw [g2 j (by omega), pk_un (by omega)], fun j hj => ?_⟩
    cases j with
    | zero => rw [Nat.add_zero, g2 a (by omega), pk_us]; rfl
    | succ j => rw [show a + (j + 1) = a + 1 + j by omega, g3 j (by omega)]; rfl
theorem call_givings (hG : GD K P S W T) (hN : 40000 ≤ N) {full : Int32} {count : Nat → Int64} {weight : Nat → Int32} {c_all_askers : Int32} {c_all_places : Int32} {c_all_seatBits : Int32} {c_all_entries : Int32} {c_all_best : Nat → Int32} {c_all_clipAll : Nat → Int32} {c_all_clipToOne : Nat → Int32} {c_all_clipToTwo : Nat → Int32} {c_all_firstOf : Nat → Int32} {c_all_gains : Nat → Int32} {c_all_left : Nat → Int32} {c_all_next : Nat → Int32} {c_all_slots : Nat → Int32} {c_all_solvedGains : Nat → Int32} {c_all_ways : Nat → Int32} (hv : SV c_all_askers c_all_places c_all_seatBits c_all_best c_all_next c_all_solvedGains c_all_ways) : ∀ {ca cp ma mp : Int32} {cs cl ct cw ms mw mt : Nat → Int32}, SB K P S W T ca cp cs cl ct cw → RepM K P S W T ma mp ms mw mt →
    ∃ r ca' cp' sb' ce' best' clA' clO' clT' fo' g' left' next' slots' sg' ways' full' count' weight', f_X7_givings N ca cp cs cw c_all_askers c_all_places c_all_seatBits c_all_entries c_all_best c_all_clipAll c_all_clipToOne c_all_clipToTwo c_all_firstOf c_all_gains c_all_left c_all_next c_all_slots c_all_solvedGains c_all_ways = some (r, ca', cp', sb', ce', best', clA', clO', clT', fo', g', left', next', slots', sg', ways') ∧
      f_X8_givings N ma mp ms mw full count weight = some (r, full', count', weight') ∧ SV ca' cp' sb' best' next' sg' ways' := by
  intro ca cp ma mp cs cl ct cw ms mw mt hB hM
  obtain ⟨⟨e1, e2, b3, b4, b5⟩, hl⟩ := hB
  obtain ⟨m1, m2, m3, m4, m5⟩ := hM
  have hP := hG.P6
  have hK := hG.K8
  have hWp := wgt_pos S P
  have hW6 := wgt_le6 S (fun q _ => hG.S3 q) hP
  subst e1; subst m1; subst e2; subst m2
  obtain ⟨ce', best', clA', clO', clT', fo', g', left', next', slots', sg', ways', s1, s2, s3, s4, s5⟩ := X7_solveAll_ok (c_all_entries := c_all_entries) (c_all_clipAll := c_all_clipAll) (c_all_clipToOne := c_all_clipToOne) (c_all_clipToTwo := c_all_clipToTwo) (c_all_firstOf := c_all_firstOf) (c_all_gains := c_all_gains) (c_all_left := c_all_left) (c_all_slots := c_all_slots) hN hG b3 b4 hv
  obtain ⟨count', w', c1, c2, c3⟩ := X8_findCount_ok (N := N) hN hK hP m3 (fun q _ => hG.S3 q) hG.W6 m4 full count weight
  have hb : bw P (gF K g' 0) S = some (0, zn P K W 0 S) := (gF_rows s2 S (Nat.zero_le _)).trans (z_bw' hP S (Nat.zero_le _))
  have hzl := zn_le (W := W) hP S (show 0 ≤ K by omega) hK
  unfold f_X7_givings f_X8_givings
  rw [s1, bd, c3, bd]
  simp only
  rw [howMany_ok s5 hb, bd, rdL_n _ (by omega) (by decide), bd]
  have := c1 0 (Nat.zero_le _) (wgt S P - 1) (by omega)
  rw [Nat.mul_zero, Nat.zero_add, zn_agree hP (fun q hq => dig_full S hq)] at this
  rw [this, nI_l (by omega)]
  exact ⟨_, _, _, _, _, _, _, _, _, _, _, _, _, _, _, _, _, _, _, rfl, rfl, SV_of hK hP hG.S3 s3 s4 s5⟩
theorem call_givingAt (hG : GD K P S W T) (hN : 40000 ≤ N) {x : Int64} {y : Int32} {full : Int32} {count : Nat → Int64} {weight found : Nat → Int32} {c_all_askers : Int32} {c_all_places : Int32} {c_all_seatBits : Int32} {c_all_entries : Int32} {c_row : Nat → Int32} {c_all_best : Nat → Int32} {c_all_clipAll : Nat → Int32} {c_all_clipToOne : Nat → Int32} {c_all_clipToTwo : Nat → Int32} {c_all_firstOf : Nat → Int32} {c_all_gains : Nat → Int32} {c_all_left : Nat → Int32} {c_all_next : Nat → Int32} {c_all_slots : Nat → Int32} {c_all_solvedGains : Nat → Int32} {c_all_ways : Nat → Int32} (hv : SV c_all_askers c_all_places c_all_seatBits c_all_best c_all_next c_all_solvedGains c_all_ways) : ∀ {ca cp ma mp : Int32} {cs cl ct cw ms mw mt : Nat → Int32}, SB K P S W T ca cp cs cl ct cw → RepM K P S W T ma mp ms mw mt →
    ∃ r ca' cp' sb' ce' row' best' clA' clO' clT' fo' g' left' next' slots' sg' ways' full' count' found' weight', f_X7_givingAt N ca cp cs cw c_all_askers c_all_places c_all_seatBits c_all_entries c_row c_all_best c_all_clipAll c_all_clipToOne c_all_clipToTwo c_all_firstOf c_all_gains c_all_left c_all_next c_all_slots c_all_solvedGains c_all_ways x y = some (r, ca', cp', sb', ce', row', best', clA', clO', clT', fo', g', left', next', slots', sg', ways') ∧
      f_X8_givingAt N ma mp ms mw full count found weight x y = some (r, full', count', found', weight') ∧ SV ca' cp' sb' best' next' sg' ways' := by
  intro ca cp ma mp cs cl ct cw ms mw mt hB hM
  obtain ⟨⟨e1, e2, b3, b4, b5⟩, hl⟩ := hB
  obtain ⟨m1, m2, m3, m4, m5⟩ := hM
  have hP := hG.P6
  have hK := hG.K8
  have hWp := wgt_pos S P
  have hW6 := wgt_le6 S (fun q _ => hG.S3 q) hP
  subst e1; subst m1; subst e2; subst m2
  obtain ⟨ce', best', clA', clO', clT', fo', g', left', next', slots', sg', ways', s1, s2, s3, s4, s5⟩ := X7_solveAll_ok (c_all_entries := c_all_entries) (c_all_clipAll := c_all_clipAll) (c_all_clipToOne := c_all_clipToOne) (c_all_clipToTwo := c_all_clipToTwo) (c_all_firstOf := c_all_firstOf) (c_all_gains := c_all_gains) (c_all_left := c_all_left) (c_all_slots := c_all_slots) hN hG b3 b4 hv
  obtain ⟨count', w', c1, c2, c3⟩ := X8_findCount_ok (N := N) hN hK hP m3 (fun q _ => hG.S3 q) hG.W6 m4 full count weight
  have hb : bw P (gF K g' 0) S = some (0, zn P K W 0 S) := (gF_rows s2 S (Nat.zero_le _)).trans (z_bw' hP S (Nat.zero_le _))
  have hzl := zn_le (W := W) hP S (show 0 ≤ K by omega) hK
  have hc := c1 0 (Nat.zero_le _) (wgt S P - 1) (by omega)
  rw [Nat.mul_zero, Nat.zero_add, zn_agree hP (fun q hq => dig_full S hq)] at hc
  unfold f_X7_givingAt f_X8_givingAt
  rw [c3, bd]
  simp only
  rw [X0_isAsker_ok hK, X8_isAsker_ok hK, bd, bd]
  by_cases hy : isM K y
  · rw [if_pos hy, if_neg one_ne, if_neg one_ne]
    by_cases h0 : x < 0
    · rw [if_pos h0, if_pos h0]
      exact ⟨_, _, _, _, _, _, _, _, _, _, _, _, _, _, _, _, _, _, _, _, _, rfl, rfl, hv⟩
    · rw [if_neg h0, if_neg h0]
      have hgv : f_X7_givings N (nI K) (nI P) cs cw c_all_askers c_all_places c_all_seatBits c_all_entries c_all_best c_all_clipAll c_all_clipToOne c_all_clipToTwo c_all_firstOf c_all_gains c_all_left c_all_next c_all_slots c_all_solvedGains c_all_ways = some (lN (zn P K W 0 S), nI K, nI P, nI (e4 S P), ce', best', clA', clO', clT', fo', g', left', next', slots', sg', ways') := by
        unfold f_X7_givings
        rw [s1, bd]
        simp only
        rw [howMany_ok s5 hb, bd, nI_l (by omega)]
      rw [hgv, bd, rdL_n _ (by omega) (by decide), bd, hc]
      simp only
      by_cases hlt : x < lN (zn P K W 0 S)
      · rw [if_pos hlt, if_pos hlt]
        obtain ⟨a, ha, rfl⟩ := isM_ex hy
        obtain ⟨i, hi, hxi⟩ : ∃ i, i < zn P K W 0 S ∧ x = lN i := by
          rw [Int64.lt_iff_toInt_lt, lN_toInt (by omega)] at hlt
          rw [Int64.lt_iff_toInt_lt] at h0
          have h00 : (0 : Int64).toInt = 0 := by decide
          rw [h00] at h0
          refine ⟨x.toInt.toNat, by omega, ?_⟩
          rw [← Int64.toInt_inj, lN_toInt (by omega)]
          omega
        subst hxi
        obtain ⟨row', p1, p2⟩ := pathTo_ok (N := N) hN hK hP s3 s4 s5 hb hi c_row
        rw [lN_i, p1, bd, rdI_n _ (by omega) (by decide), bd, p2 a ha, nthT_rows s2]
        have hz0 : zn P K W 0 (dig S (wgt S P - 1)) = zn P K W 0 S := zn_agree hP (fun q hq => dig_full S hq)
        obtain ⟨found', f1, f2, f3⟩ := ga_47 (N := N) hN hK hP m3 (fun q _ => hG.S3 q) hG.W6 m4 c2 (full := nI (wgt S P - 1)) c1 ha (a + 1) N 0 (wgt S P - 1) i found (by omega) (by omega) (by omega) (by omega)
        have e0 : f_X8_givingAt_47 N (nI K) (nI P) ms mw N (nI (wgt S P - 1)) count' found w' (nI a) (lN i) (nI (wgt S P - 1)) 0 = f_X8_givingAt_47 N (nI K) (nI P) ms mw N (nI (wgt S P - 1)) count' found w' (nI a) (lN i) (nI (wgt S P - 1)) (nI 0) := rfl
        rw [e0, f1]
        have := f3 a (by omega)
        rw [Nat.zero_add] at this
        rw [this]
        have e : nth P (zF K W 0) (dig S (wgt S P - 1)) i = nth P (rf (zRow W) 0 K) S i := by
          unfold zF
          exact nth_cong P _ _ _ _ _ _ _ (fun _ _ _ _ _ => rfl) (fun q hq => dig_full S hq)
        rw [e]
        exact ⟨_, _, _, _, _, _, _, _, _, _, _, _, _, _, _, _, _, _, _, _, _, rfl, rfl, SV_of hK hP hG.S3 s3 s4 s5⟩
      · rw [if_neg hlt, if_neg hlt]
        exact ⟨_, _, _, _, _, _, _, _, _, _, _, _, _, _, _, _, _, _, _, _, _, rfl, rfl, SV_of hK hP hG.S3 s3 s4 s5⟩
  · rw [if_neg hy, if_pos rfl, if_pos rfl]
    exact ⟨_, _, _, _, _, _, _, _, _, _, _, _, _, _, _, _, _, _, _, _, _, rfl, rfl, hv⟩
end GIV
