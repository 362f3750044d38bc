/-! placeOf -/
section PLACE
variable {N K P : Nat} {S : Nat → Nat} {W T : Nat → Nat → Nat} {seats wish : Nat → Int32}
/-- seats that the first a askers leave -/
def lft (S : Nat → Nat) (t : Nat → Nat) (a : Nat) : Sv := fun q => S q - fb_ct (fun b => decide (t b = q + 1)) a
theorem lft_0 (t : Nat → Nat) : lft S t 0 = S := funext fun q => by unfold lft; rfl
/-- a told giving is a giving: asker by asker -/
theorem lft_tk {t : Nat → Nat} {a : Nat} (ha : a < K) (hP : t a ≤ P) (h : ∀ q, q < P → had K t (q + 1) ≤ S q) : tk (lft S t a) (t a) = some (lft S t (a + 1)) := by
  have hsucc : ∀ q, fb_ct (fun b => decide (t b = q + 1)) (a + 1) = fb_ct (fun b => decide (t b = q + 1)) a + (if decide (t a = q + 1) then 1 else 0) := fun q => rfl
  cases ht : t a with
  | zero =>
    show some (lft S t a) = some (lft S t (a + 1))
    congr 1
    funext q
    unfold lft
    rw [hsucc q, ht, if_neg (by simp)]
    omega
  | succ p =>
    have hle : fb_ct (fun b => decide (t b = p + 1)) (a + 1) ≤ S p := Nat.le_trans (fb_ct_mono _ (by omega)) (h p (by omega))
    rw [hsucc p, ht, if_pos (by simp)] at hle
    unfold tk
    simp only
    rw [if_pos (show 0 < lft S t a p by unfold lft; omega)]
    congr 1
    funext q
    unfold dec lft
    rw [hsucc q, ht]
    by_cases e : q = p
    · rw [if_pos e, e, if_pos (by simp)]; omega
    · rw [if_neg e, if_neg (by simp; omega)]
      omega
/-- how many givings are ahead of one -/
def rnk (P K : Nat) (S : Nat → Nat) (W : Nat → Nat → Nat) (t : Nat → Nat) : Nat → Nat := fb_sm (fun a => fb_sm (zw P K W a (lft S t a)) (t a))
theorem zw_agree (hP : P ≤ 6) {a o : Nat} {σ σ' : Sv} (ha : a < K) (ho : o ≤ P) (h : ∀ q, q < P → σ q = σ' q) : zw P K W a σ o = zw P K W a σ' o := by
  unfold zw wt
  have e := cv_cong2 P (zRow W) (zRow W) (K - (a + 1)) a σ σ' (fun _ _ _ _ _ => rfl) h ho
  unfold zF
  rw [e]
theorem wt_rows {g : Nat → Int32} (h : RowsAre K P g (zRow W)) {a o : Nat} (ha : a < K) (ho : o ≤ P) (σ : Sv) : wt (cv P (gRow g a) (gF K g (a + 1)) σ) 0 o = zw P K W a σ o := by
  unfold zw wt zF gF
  have e := cv_cong2 P (gRow g) (zRow W) (K - (a + 1)) a σ σ (fun i o h1 h2 h3 => h i o (by omega) h3) (fun _ _ => rfl) ho
  rw [e]
theorem rankOf_34_ok (hK : K ≤ 8) (hP : P ≤ 6) {gains best ways next sg row : Nat → Int32} (hg : GB K P gains) (hsg : SameG K P gains sg) (hr : RowsAre K P gains (zRow W)) {m a e : Nat} {σ : Sv} (hk : K = a + (m + 1)) (h : Ent K P gains best ways next (m + 1) a e σ) (k7 : Int32 → Int32 → Int32 → Option (Int32)) {o : Nat} (ho : o ≤ P) :
    ∀ (n c r : Nat), c ≤ o → o - c < n → f_X4_rankOf_34 N (nI K) row best next sg ways k7 n (nI e) (nI (r + fb_sm (zw P K W a σ) c)) (nI a) (nI o) (nI c) = f_X4_rankOf_66 N (nI K) row best next sg ways k7 (nI e) (nI (r + fb_sm (zw P K W a σ) o)) (nI a) (nI o) := by
  intro n
  induction n with
  | zero => intro c r h1 h2; omega
  | succ n ih =>
    intro c r hc hn
    rw [f_X4_rankOf_34]
    by_cases h1 : o ≤ c
    · have : c = o := by omega
      subst this
      rw [if_pos (nI_le (Nat.le_refl _) (by omega))]
    · have hb : bw P (gF K gains a) σ = some (0, zn P K W a σ) := (gF_rows hr σ (by omega)).trans (z_bw' hP σ (by omega))
      rw [if_neg (nI_ge (by omega) (by omega)), if_neg (show ¬ (7 : Int32) ≤ nI c from nI_ge (b := 7) (by omega) (by decide)), waysBy_ok hK hP hg hsg hk h hb (by omega), bd, wt_rows hr (by omega) (by omega), nI_add, nI_1, Nat.add_assoc, ← fb_sm_succ]
      exact ih (c + 1) r (by omega) (by omega)
theorem rankOf_7_ok (hN : 40000 ≤ N) (hK : K ≤ 8) (hP : P ≤ 6) {gains best ways next sg row : Nat → Int32} (hg : GB K P gains) (hsg : SameG K P gains sg) (hr : RowsAre K P gains (zRow W)) {t : Nat → Nat} (hrow : RowIs K t row) (htP : ∀ a, t a ≤ P) (htS : ∀ q, q < P → had K t (q + 1) ≤ S q) (htW : ∀ a q, t a = q + 1 → 0 < W a q) :
    ∀ (m n a e : Nat), K = a + m → m < n → Ent K P gains best ways next m a e (lft S t a) → f_X4_rankOf_7 N (nI K) row best next sg ways n (nI e) (nI (rnk P K S W t a)) (nI a) = some (nI (rnk P K S W t K)) := by
  intro m
  induction m with
  | zero =>
    intro n a e hk hn h
    obtain ⟨n, rfl⟩ : ∃ n', n = n' + 1 := ⟨n - 1, by omega⟩
    have : a = K := by omega
    subst this
    rw [f_X4_rankOf_7, if_pos (nI_le (Nat.le_refl _) (by omega))]
  | succ m ih =>
    intro n a e hk hn h
    obtain ⟨n, rfl⟩ : ∃ n', n = n' + 1 := ⟨n - 1, by omega⟩
    rw [f_X4_rankOf_7, if_neg (nI_ge (by omega) (by omega)), if_neg (show ¬ (8 : Int32) ≤ nI a from nI_ge (b := 8) (by omega) (by decide)), rdI_n _ (by omega) (by decide), bd, hrow a (by omega), oI_1]
    have hta := htP a
    have h34 := rankOf_34_ok (N := N) (row := row) hK hP hg hsg hr hk h (f_X4_rankOf_7 N (nI K) row best next sg ways n) (o := t a) hta N 0 (rnk P K S W t a) (Nat.zero_le _) (by omega)
    have e0 : f_X4_rankOf_34 N (nI K) row best next sg ways (f_X4_rankOf_7 N (nI K) row best next sg ways n) N (nI e) (nI (rnk P K S W t a)) (nI a) (nI (t a)) 0 = f_X4_rankOf_34 N (nI K) row best next sg ways (f_X4_rankOf_7 N (nI K) row best next sg ways n) N (nI e) (nI (rnk P K S W t a + fb_sm (zw P K W a (lft S t a)) 0)) (nI a) (nI (t a)) (nI 0) := rfl
    rw [e0, h34]
    obtain ⟨h1, h2, h3⟩ := h
    have h3 := h3 (t a) hta
    have hz : gRow gains a (t a) = some 0 := by
      rw [hr a (t a) (by omega) hta]
      cases ht : t a with
      | zero => rfl
      | succ q => unfold zRow; simp only; rw [if_pos (htW a q ht)]
    rw [hz] at h3
    simp only at h3
    rw [lft_tk (P := P) (show a < K by omega) hta htS] at h3
    simp only at h3
    obtain ⟨j, j1, j2⟩ := h3
    unfold f_X4_rankOf_66
    rw [childOf_some h1 (by omega) j1 j2.lt, bd, nI_1]
    exact ih n (a + 1) j (by omega) (by omega) j2
theorem X4_rankOf_ok (hN : 40000 ≤ N) (hK : K ≤ 8) (hP : P ≤ 6) {gains best ways next sg row : Nat → Int32} (hg : GB K P gains) (hsg : SameG K P gains sg) (hr : RowsAre K P gains (zRow W)) {t : Nat → Nat} (hrow : RowIs K t row) (htP : ∀ a, t a ≤ P) (htS : ∀ q, q < P → had K t (q + 1) ≤ S q) (htW : ∀ a q, t a = q + 1 → 0 < W a q) (h : Ent K P gains best ways next K 0 0 S) :
    f_X4_rankOf N (nI K) row best next sg ways = some (nI (rnk P K S W t K)) :=
  rankOf_7_ok hN hK hP hg hsg hr hrow htP htS htW K N 0 0 (by omega) (by omega) (by rw [lft_0]; exact h)
theorem po_38 (hK : K ≤ 8) (hP : P ≤ 6) (hs : ∀ q, q < 6 → seats q = nI (S q)) (hS : ∀ q, q < 6 → S q ≤ 3) (hW : ∀ a q, W a q ≤ 6) (hw : ∀ a q, a < 8 → q < 6 → wish (a * 6 + q) = nI (W a q)) {weight told : Nat → Int32} (hwt : ∀ j, j < P → weight j = nI (wgt S j)) (m5 : ∀ g a, g < 4 → a < 8 → told (g * 8 + a) = nI (T g a)) (hTP : ∀ g a, T g a ≤ P)
    {count : Nat → Int64} {full : Int32} {a s g : Nat} (hg : g < 4) (ha : a < K) (hs4 : s < wgt S P) (hT : CT P K S W count (a + 1)) {t' : Nat} (ht' : tkS S W a (T g a) s = some t') (k26 : Int32 → (Nat → Int64) → (Nat → Int32) → Int32 → Int64 → Int32 → Int32 → Option (Int64 × Int32 × (Nat → Int64) × (Nat → Int32))) :
    ∀ (n o r : Nat), o ≤ T g a → T g a - o < n → f_X8_placeOf_38 N (nI K) (nI P) seats told wish k26 n full count weight (nI g) (lN (r + fb_sm (zw P K W a (dig S s)) o)) (nI s) (nI a) (nI o) = k26 full count weight (nI g) (lN (r + fb_sm (zw P K W a (dig S s)) (T g a))) (nI t') (nI (a + 1)) := by
  have hW6 := wgt_le6 S hS hP
  have hTa := hTP g a
  intro n
  induction n with
  | zero => intro o r h1 h2; omega
  | succ n ih =>
    intro o r ho hn
    rw [f_X8_placeOf_38, ix8', rdI_n _ (by omega) (by decide), bd, m5 g a hg (by omega)]
    by_cases h : T g a ≤ o
    · have : o = T g a := by omega
      subst this
      rw [if_pos (nI_le (Nat.le_refl _) (by omega)), bd, X8_takes_ok N hP hs hS hW hw hwt (by omega) (by omega) (by omega), bd, ht', nI_1]
      rfl
    · rw [if_neg (nI_ge (by omega) (by omega)), X8_takes_ok N hP hs hS hW hw hwt (by omega) (by omega) (by omega), bd]
      have hz := zw_tkS (K := K) (S := S) (W := W) (o := o) (s := s) hP ha
      have hrec := ih (o + 1) r (by omega) (by omega)
      rw [fb_sm_succ, hz] at hrec
      cases ht : tkS S W a o s with
      | none =>
        rw [ht] at hrec
        unfold oN
        simp only
        rw [if_pos trivial, nI_1, Int64.add_zero]
        exact hrec
      | some t =>
        rw [ht] at hrec
        have := tkS_le ht
        unfold oN
        simp only
        rw [if_neg (nI_neg1 (by omega)), nI_1, ixW, rdL_n _ (by omega) (by decide), bd, hT t (by omega), lN_add, nI_1, Nat.add_assoc]
        exact hrec
theorem po_26 (hN : 40000 ≤ N) (hG : GD K P S W T) (hs : ∀ q, q < 6 → seats q = nI (S q)) (hw : ∀ a q, a < 8 → q < 6 → wish (a * 6 + q) = nI (W a q)) {weight told : Nat → Int32} (hwt : ∀ j, j < P → weight j = nI (wgt S j)) (m5 : ∀ g a, g < 4 → a < 8 → told (g * 8 + a) = nI (T g a))
    {count : Nat → Int64} {full : Int32} {g : Nat} (hg : g < 4) (hT : ∀ b, b ≤ K → CT P K S W count b) :
    ∀ (m n a s : Nat), K = a + m → m < n → s < wgt S P → (∀ q, q < P → dig S s q = lft S (T g) a q) → f_X8_placeOf_26 N (nI K) (nI P) seats told wish n full count weight (nI g) (lN (rnk P K S W (T g) a)) (nI s) (nI a) = some (lN (rnk P K S W (T g) K), full, count, weight) := by
  have hK := hG.K8
  have hP := hG.P6
  intro m
  induction m with
  | zero =>
    intro n a s hk hn hs4 hd
    obtain ⟨n, rfl⟩ : ∃ n', n = n' + 1 := ⟨n - 1, by omega⟩
    have : a = K := by omega
    subst this
    rw [f_X8_placeOf_26, if_pos (nI_le (Nat.le_refl _) (by omega))]
  | succ m ih =>
    intro n a s hk hn hs4 hd
    obtain ⟨n, rfl⟩ : ∃ n', n = n' + 1 := ⟨n - 1, by omega⟩
    have ha : a < K := by omega
    have hta := hG.TP g a
    have hl := lft_tk (P := P) ha hta (hG.TS g)
    have hst := tkS_tk (S := S) (W := W) (a := a) (o := T g a) (s := s) (fun q hq => hG.TW g a q hq)
    rcases tk_agree (P := P) hd hta with ⟨h1, h2⟩ | ⟨τ, τ', h1, h2, h3⟩
    · rw [hl] at h2; cases h2
    · rw [hl] at h2
      cases h2
      cases ht : tkS S W a (T g a) s with
      | none => rw [ht, h1] at hst; cases hst
      | some t' =>
        rw [ht, h1, Option.map_some] at hst
        have hτ : τ = dig S t' := by simpa using hst
        rw [f_X8_placeOf_26, if_neg (nI_ge (by omega) (by omega))]
        have h38 := po_38 (N := N) (T := T) hK hP hs (fun q _ => hG.S3 q) hG.W6 hw hwt m5 hG.TP (full := full) hg ha hs4 (hT (a + 1) (by omega)) ht (f_X8_placeOf_26 N (nI K) (nI P) seats told wish n) N 0 (rnk P K S W (T g) a) (Nat.zero_le _) (by omega)
        have e0 : f_X8_placeOf_38 N (nI K) (nI P) seats told wish (f_X8_placeOf_26 N (nI K) (nI P) seats told wish n) N full count weight (nI g) (lN (rnk P K S W (T g) a)) (nI s) (nI a) 0 = f_X8_placeOf_38 N (nI K) (nI P) seats told wish (f_X8_placeOf_26 N (nI K) (nI P) seats told wish n) N full count weight (nI g) (lN (rnk P K S W (T g) a + fb_sm (zw P K W a (dig S s)) 0)) (nI s) (nI a) (nI 0) := rfl
        rw [e0, h38]
        have e1 : rnk P K S W (T g) a + fb_sm (zw P K W a (dig S s)) (T g a) = rnk P K S W (T g) (a + 1) := by
          have : rnk P K S W (T g) (a + 1) = rnk P K S W (T g) a + fb_sm (zw P K W a (lft S (T g) a)) (T g a) := rfl
          rw [this]
          congr 1
          exact fb_sm_cong (fun o ho => zw_agree hP ha (by omega) hd)
        rw [e1]
        exact ih n (a + 1) t' (by omega) (by omega) (by have := tkS_le ht; omega) (fun q hq => by rw [← hτ]; exact h3 q hq)
theorem call_placeOf (hG : GD K P S W T) (hN : 40000 ≤ N) {x : Int32} {full : Int32} {count : Nat → Int64} {weight : Nat → Int32} {c_all_askers : Int32} {c_all_places : Int32} {c_all_seatBits : Int32} {c_all_entries : Int32} {c_row : Nat → Int32} {c_all_best : Nat → Int32} {c_all_clipAll : Nat → Int32} {c_all_clipToOne : Nat → Int32} {c_all_clipToTwo : Nat → Int32} {c_all_firstOf : Nat → Int32} {c_all_gains : Nat → Int32} {c_all_left : Nat → Int32} {c_all_next : Nat → Int32} {c_all_slots : Nat → Int32} {c_all_solvedGains : Nat → Int32} {c_all_ways : Nat → Int32} (hv : SV c_all_askers c_all_places c_all_seatBits c_all_best c_all_next c_all_solvedGains c_all_ways) : ∀ {ca cp ma mp : Int32} {cs cl ct cw ms mw mt : Nat → Int32}, SB K P S W T ca cp cs cl ct cw → RepM K P S W T ma mp ms mw mt →
    ∃ r ca' cp' sb' ce' row' best' clA' clO' clT' fo' g' left' next' slots' sg' ways' full' count' weight', f_X7_placeOf N ca cp cs ct cw c_all_askers c_all_places c_all_seatBits c_all_entries c_row c_all_best c_all_clipAll c_all_clipToOne c_all_clipToTwo c_all_firstOf c_all_gains c_all_left c_all_next c_all_slots c_all_solvedGains c_all_ways x = some (r, ca', cp', sb', ce', row', best', clA', clO', clT', fo', g', left', next', slots', sg', ways') ∧
      f_X8_placeOf N ma mp ms mt mw full count weight x = some (r, full', count', weight') ∧ SV ca' cp' sb' best' next' sg' ways' := by
  intro ca cp ma mp cs cl ct cw ms mw mt hB hM
  obtain ⟨⟨e1, e2, b3, b4, b5⟩, hl⟩ := hB
  obtain ⟨m1, m2, m3, m4, m5⟩ := hM
  have hP := hG.P6
  have hK := hG.K8
  have hWp := wgt_pos S P
  have hW6 := wgt_le6 S (fun q _ => hG.S3 q) hP
  subst e1; subst m1; subst e2; subst m2
  unfold f_X7_placeOf f_X8_placeOf
  rw [X7_isTold_ok, X8_isTold_ok, bd, bd]
  by_cases hx : isM 4 x
  · rw [if_pos hx, if_neg one_ne, if_neg one_ne]
    obtain ⟨g, hg, rfl⟩ := isM_ex hx
    obtain ⟨ce', best', clA', clO', clT', fo', g', left', next', slots', sg', ways', s1, s2, s3, s4, s5⟩ := X7_solveAll_ok (c_all_entries := c_all_entries) (c_all_clipAll := c_all_clipAll) (c_all_clipToOne := c_all_clipToOne) (c_all_clipToTwo := c_all_clipToTwo) (c_all_firstOf := c_all_firstOf) (c_all_gains := c_all_gains) (c_all_left := c_all_left) (c_all_slots := c_all_slots) hN hG b3 b4 hv
    obtain ⟨count', w', c1, c2, c3⟩ := X8_findCount_ok (N := N) hN hK hP m3 (fun q _ => hG.S3 q) hG.W6 m4 full count weight
    obtain ⟨row', r1, r2⟩ := X7_copyTold_ok (N := N) hN hK b5 hg c_row
    have hrank := X4_rankOf_ok (N := N) hN hK hP s3 s4 s2 r2 (hG.TP g) (hG.TS g) (hG.TW g) s5
    have h26 := po_26 (N := N) hN hG m3 m4 c2 m5 (full := nI (wgt S P - 1)) hg c1 K N 0 (wgt S P - 1) (by omega) (by omega) (by omega) (fun q hq => by rw [lft_0]; exact dig_full S hq)
    have e0 : f_X8_placeOf_26 N (nI K) (nI P) ms mt mw N (nI (wgt S P - 1)) count' w' (nI g) 0 (nI (wgt S P - 1)) 0 = f_X8_placeOf_26 N (nI K) (nI P) ms mt mw N (nI (wgt S P - 1)) count' w' (nI g) (lN (rnk P K S W (T g) 0)) (nI (wgt S P - 1)) (nI 0) := rfl
    rw [s1, bd, c3, bd]
    simp only
    rw [r1, bd, hrank, bd, e0, h26]
    have hlt : rnk P K S W (T g) K < 2 ^ 31 := by
      have hlv : ∀ a, a < K → fb_sm (zw P K W a (lft S (T g) a)) (T g a) ≤ 7 * 5764801 := by
        intro a ha
        have hta := hG.TP g a
        refine Nat.le_trans (fb_sm_bound (c := 5764801) (fun o ho => ?_)) (Nat.mul_le_mul_right _ (by omega))
        have h1 := fb_sm_part (zw P K W a (lft S (T g) a)) (show o < P + 1 by omega)
        rw [← zn_step hP _ ha] at h1
        have h2 := zn_le (W := W) hP (lft S (T g) a) (show a ≤ K by omega) hK
        omega
      have : rnk P K S W (T g) K ≤ K * (7 * 5764801) := fb_sm_bound hlv
      have : K * (7 * 5764801) ≤ 8 * (7 * 5764801) := Nat.mul_le_mul_right _ hK
      omega
    rw [nI_l hlt]
    exact ⟨_, _, _, _, _, _, _, _, _, _, _, _, _, _, _, _, _, _, _, _, rfl, rfl, SV_of hK hP hG.S3 s3 s4 s5⟩
  · rw [if_neg hx, if_pos rfl, if_pos rfl]
    exact ⟨_, _, _, _, _, _, _, _, _, _, _, _, _, _, _, _, _, _, _, _, rfl, rfl, hv⟩
end PLACE
