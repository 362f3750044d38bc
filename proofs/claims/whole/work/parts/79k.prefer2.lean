/-! PREFER2: the reference's table, whole -/
section PREFER2
variable {N K P : Nat} {S : Nat → Nat} {W T : Nat → Nat → Nat} {m : Nat → Nat} {ms mt mw weight : Nat → Int32}
theorem pr_98 (hN : 40000 ≤ N) (hK : K ≤ 8) (hP : P ≤ 6) (hs : ∀ q, q < 6 → ms q = nI (S q)) (hS : ∀ q, q < 6 → S q ≤ 3) (hW : ∀ a q, W a q ≤ 6) (hw : ∀ a q, a < 8 → q < 6 → mw (a * 6 + q) = nI (W a q)) (hwt : ∀ j, j < P → weight j = nI (wgt S j)) {g a Y : Nat} (ha : a < K) (hY : Y ≤ a) {pref : Nat → Int32} (hp : PT P S W m a pref) (k89 : Int32 → (Nat → Int32) → (Nat → Int32) → (Nat → Int32) → Int32 → Int32 → Int32 → Int32 → Option (Int32 × (Nat → Int32) × (Nat → Int32) × (Nat → Int32))) :
    ∀ (n s : Nat) (next : Nat → Int32), s ≤ wgt S P → wgt S P - s < n → NT P S W m (dn Y s 0) a next →
      ∃ next', f_X8_findPrefer_98 N (nI K) (nI P) ms mt mw k89 n (nI (wgt S P - 1)) next pref weight (nI g) (nI a) (nI (wo W a (m a))) (nI Y) (nI s) = k89 (nI (wgt S P - 1)) next' pref weight (nI g) (nI a) (nI (wo W a (m a))) (nI (Y + 1)) ∧ NT P S W m (dn (Y + 1) 0 0) a next' := by
  have hW4 := wgt_le6 S hS hP
  have hW0 := wgt_pos S P
  intro n
  induction n with
  | zero => intro s next h1 h2; omega
  | succ n ih =>
    intro s next h1 h2 h3
    rw [f_X8_findPrefer_98]
    by_cases hc : wgt S P - 1 < s
    · rw [if_pos (nI_lt hc (by omega)), nI_1]
      refine ⟨next, rfl, NT_iff (fun y0 s0 x0 o' s' r1 r2 r3 => ?_) h3⟩
      have := (RC_le _ _ _ _ r1).2.2
      unfold dn; omega
    · rw [if_neg (nI_nlt (by omega) (by omega)), show (4096 : Int32) * nI Y + nI s = nI (4096 * Y + s) by rw [show (4096 : Int32) = nI 4096 from rfl, nI_mul, nI_add], rdI_n _ (by omega) (by decide), bd]
      obtain ⟨next1, e1, e2⟩ := pr_126 (N := N) (mt := mt) hK hP hs hS hW hw hwt (g := g) ha hY (show s < wgt S P by omega) hp (f_X8_findPrefer_98 N (nI K) (nI P) ms mt mw k89 n) N 0 next (by omega) (by omega) h3
      obtain ⟨next2, e3, e4⟩ := ih (s + 1) next1 (by omega) (by omega) e2
      exact ⟨next2, e1.trans e3, e4⟩
theorem pr_260 (k37 : Int32 → (Nat → Int32) → (Nat → Int32) → (Nat → Int32) → Int32 → Int32 → Option (Int32 × (Nat → Int32) × (Nat → Int32) × (Nat → Int32))) {g a : Nat} {next : Nat → Int32} :
    ∀ (n i : Nat) (pref : Nat → Int32), i ≤ 36864 → 36864 - i < n → (∀ j, j < i → pref j = next j) →
      ∃ pref', f_X8_findPrefer_260 N (nI K) (nI P) ms mt mw k37 n (nI (wgt S P - 1)) next pref weight (nI g) (nI a) (nI i) = k37 (nI (wgt S P - 1)) next pref' weight (nI g) (nI (a + 1)) ∧ ∀ j, j < 36864 → pref' j = next j := by
  intro n
  induction n with
  | zero => intro i pref h1 h2; omega
  | succ n ih =>
    intro i pref h1 h2 h3
    rw [f_X8_findPrefer_260]
    by_cases hc : 36864 ≤ i
    · have : i = 36864 := by omega
      subst this
      rw [if_pos (show 36864 ≤ nI 36864 from nI_le (a := 36864) (Nat.le_refl _) (by omega)), nI_1]
      exact ⟨pref, rfl, h3⟩
    · rw [if_neg (show ¬ 36864 ≤ nI i from nI_ge (b := 36864) (by omega) (by omega)), rdI_n _ (by omega) (by decide), bd, wrI_n _ _ (by omega) (by decide), bd, nI_1]
      exact ih (i + 1) _ (by omega) (by omega) (fun j hj => by
        by_cases e : j = i
        · rw [e, pk_us]
        · rw [pk_un e]; exact h3 j (by omega))
theorem pr_89 (hN : 40000 ≤ N) (hK : K ≤ 8) (hP : P ≤ 6) (hs : ∀ q, q < 6 → ms q = nI (S q)) (hS : ∀ q, q < 6 → S q ≤ 3) (hW : ∀ a q, W a q ≤ 6) (hw : ∀ a q, a < 8 → q < 6 → mw (a * 6 + q) = nI (W a q)) (hwt : ∀ j, j < P → weight j = nI (wgt S j)) {g a : Nat} (ha : a < K) {pref : Nat → Int32} (hp : PT P S W m a pref) (k37 : Int32 → (Nat → Int32) → (Nat → Int32) → (Nat → Int32) → Int32 → Int32 → Option (Int32 × (Nat → Int32) × (Nat → Int32) × (Nat → Int32))) :
    ∀ (n Y : Nat) (next : Nat → Int32), Y ≤ a + 1 → a + 1 - Y < n → NT P S W m (dn Y 0 0) a next →
      ∃ next' pref', f_X8_findPrefer_89 N (nI K) (nI P) ms mt mw k37 n (nI (wgt S P - 1)) next pref weight (nI g) (nI a) (nI (wo W a (m a))) (nI Y) = k37 (nI (wgt S P - 1)) next' pref' weight (nI g) (nI (a + 1)) ∧ PT P S W m (a + 1) pref' := by
  have hW4 := wgt_le6 S hS hP
  intro n
  induction n with
  | zero => intro Y next h1 h2; omega
  | succ n ih =>
    intro Y next h1 h2 h3
    rw [f_X8_findPrefer_89]
    by_cases hc : a < Y
    · rw [if_pos (nI_lt hc (by omega))]
      obtain ⟨pref', e1, e2⟩ := pr_260 (N := N) (K := K) (P := P) (S := S) (ms := ms) (mt := mt) (mw := mw) (weight := weight) k37 (g := g) (a := a) (next := next) N 0 pref (by omega) (by omega) (fun j hj => absurd hj (Nat.not_lt_zero j))
      refine ⟨next, pref', e1, fun y s hy hsl => ?_⟩
      obtain ⟨v, v0, v1, v2⟩ := h3 y s hy hsl
      refine ⟨v, v0, by rw [e2 _ (by omega)]; exact v1, FV_cong (fun x => ?_) v2⟩
      constructor
      · rintro ⟨y0, s0, x0, o, d1, d2⟩
        exact ⟨y0, s0, x0, o, d2⟩
      · rintro ⟨y0, s0, x0, o, d2⟩
        have := (RC_le _ _ _ _ d2.1).1
        exact ⟨y0, s0, x0, o, by unfold dn; omega, d2⟩
    · rw [if_neg (nI_nlt (by omega) (by omega))]
      obtain ⟨next1, e1, e2⟩ := pr_98 (N := N) (mt := mt) hN hK hP hs hS hW hw hwt (g := g) ha (show Y ≤ a by omega) hp (f_X8_findPrefer_89 N (nI K) (nI P) ms mt mw k37 n) N 0 next (by omega) (by omega) h3
      obtain ⟨next2, pref2, e3, e4⟩ := ih (Y + 1) next1 (by omega) (by omega) e2
      exact ⟨next2, pref2, e1.trans e3, e4⟩
theorem pr_65 (k37 : Int32 → (Nat → Int32) → (Nat → Int32) → (Nat → Int32) → Int32 → Int32 → Option (Int32 × (Nat → Int32) × (Nat → Int32) × (Nat → Int32))) {pref : Nat → Int32} {v1 v2 v3 : Int32} :
    ∀ (n i : Nat) (next : Nat → Int32), i ≤ 36864 → 36864 - i < n → (∀ j, j < i → next j = -1) →
      ∃ next', f_X8_findPrefer_65 N (nI K) (nI P) ms mt mw k37 n (nI (wgt S P - 1)) next pref weight v1 v2 v3 (nI i) = f_X8_findPrefer_89 N (nI K) (nI P) ms mt mw k37 N (nI (wgt S P - 1)) next' pref weight v1 v2 v3 (nI 0) ∧ ∀ j, j < 36864 → next' j = -1 := by
  intro n
  induction n with
  | zero => intro i next h1 h2; omega
  | succ n ih =>
    intro i next h1 h2 h3
    rw [f_X8_findPrefer_65]
    by_cases hc : 36864 ≤ i
    · have : i = 36864 := by omega
      subst this
      rw [if_pos (show 36864 ≤ nI 36864 from nI_le (a := 36864) (Nat.le_refl _) (by omega))]
      exact ⟨next, rfl, h3⟩
    · rw [if_neg (show ¬ 36864 ≤ nI i from nI_ge (b := 36864) (by omega) (by omega)), wrI_n _ _ (by omega) (by decide), bd, nI_1]
      exact ih (i + 1) _ (by omega) (by omega) (fun j hj => by
        by_cases e : j = i
        · rw [e, pk_us]
        · rw [pk_un e]; exact h3 j (by omega))
theorem pr_37 (hN : 40000 ≤ N) (hK : K ≤ 8) (hP : P ≤ 6) (hs : ∀ q, q < 6 → ms q = nI (S q)) (hS : ∀ q, q < 6 → S q ≤ 3) (hW : ∀ a q, W a q ≤ 6) (hw : ∀ a q, a < 8 → q < 6 → mw (a * 6 + q) = nI (W a q)) (hwt : ∀ j, j < P → weight j = nI (wgt S j)) (hT6 : ∀ g a, T g a ≤ 6) (m5 : ∀ g a, g < 4 → a < 8 → mt (g * 8 + a) = nI (T g a)) {g : Nat} (hg : g < 4) :
    ∀ (n a : Nat) (next pref : Nat → Int32), a ≤ K → K - a < n → PT P S W (T g) a pref →
      ∃ next' pref', f_X8_findPrefer_37 N (nI K) (nI P) ms mt mw n (nI (wgt S P - 1)) next pref weight (nI g) (nI a) = some (nI (wgt S P - 1), next', pref', weight) ∧ PT P S W (T g) K pref' := by
  have hW4 := wgt_le6 S hS hP
  intro n
  induction n with
  | zero => intro a next pref h1 h2; omega
  | succ n ih =>
    intro a next pref h1 h2 h3
    rw [f_X8_findPrefer_37]
    by_cases hc : K ≤ a
    · have : a = K := by omega
      subst this
      rw [if_pos (nI_le (Nat.le_refl _) (by omega))]
      exact ⟨next, pref, rfl, h3⟩
    · rw [if_neg (nI_ge (by omega) (by omega)), can_ix, rdI_n _ (by omega) (by decide), bd, m5 g a hg (by omega), X8_worthOf_ok N hW hw (by omega) (hT6 g a), bd]
      obtain ⟨next1, e1, e2⟩ := pr_65 (N := N) (K := K) (P := P) (S := S) (ms := ms) (mt := mt) (mw := mw) (weight := weight) (f_X8_findPrefer_37 N (nI K) (nI P) ms mt mw n) (pref := pref) (v1 := nI g) (v2 := nI a) (v3 := nI (wo W a (T g a))) N 0 next (by omega) (by omega) (fun j hj => absurd hj (Nat.not_lt_zero j))
      have hn0 : NT P S W (T g) (dn 0 0 0) a next1 := by
        intro y s hy hsl
        refine ⟨0, by omega, e2 _ (by omega), ?_, Or.inl rfl⟩
        rintro x ⟨y0, s0, x0, o, d1, -⟩
        unfold dn at d1
        omega
      obtain ⟨next2, pref2, e3, e4⟩ := pr_89 (N := N) (mt := mt) hN hK hP hs hS hW hw hwt (g := g) (show a < K by omega) h3 (f_X8_findPrefer_37 N (nI K) (nI P) ms mt mw n) N 0 next1 (by omega) (by omega) hn0
      obtain ⟨next3, pref3, e5, e6⟩ := ih (a + 1) next2 pref2 (by omega) (by omega) e4
      exact ⟨next3, pref3, e1.trans (e3.trans e5), e6⟩
theorem pr_6 (hN : 40000 ≤ N) (hK : K ≤ 8) (hP : P ≤ 6) (hs : ∀ q, q < 6 → ms q = nI (S q)) (hS : ∀ q, q < 6 → S q ≤ 3) (hW : ∀ a q, W a q ≤ 6) (hw : ∀ a q, a < 8 → q < 6 → mw (a * 6 + q) = nI (W a q)) (hwt : ∀ j, j < P → weight j = nI (wgt S j)) (hT6 : ∀ g a, T g a ≤ 6) (m5 : ∀ g a, g < 4 → a < 8 → mt (g * 8 + a) = nI (T g a)) {g : Nat} (hg : g < 4) :
    ∀ (n i : Nat) (next pref : Nat → Int32), i ≤ 36864 → 36864 - i < n → (∀ j, j < i → pref j = -1) →
      ∃ next' pref', f_X8_findPrefer_6 N (nI K) (nI P) ms mt mw n (nI (wgt S P - 1)) next pref weight (nI g) (nI i) = some (nI (wgt S P - 1), next', pref', weight) ∧ PT P S W (T g) K pref' := by
  have hW4 := wgt_le6 S hS hP
  have hW0 := wgt_pos S P
  intro n
  induction n with
  | zero => intro i next pref h1 h2; omega
  | succ n ih =>
    intro i next pref h1 h2 h3
    rw [f_X8_findPrefer_6]
    by_cases hc : 36864 ≤ i
    · have : i = 36864 := by omega
      subst this
      rw [if_pos (show 36864 ≤ nI 36864 from nI_le (a := 36864) (Nat.le_refl _) (by omega)), wrI_n _ _ (by omega) (by decide), bd]
      refine pr_37 (N := N) hN hK hP hs hS hW hw hwt hT6 m5 hg N 0 next _ (Nat.zero_le _) (by omega) (fun y s hy hsl => ?_)
      by_cases e : 4096 * y + s = wgt S P - 1
      · refine ⟨1, by omega, by rw [e, pk_us]; rfl, fun x hx => ?_, Or.inr ⟨by omega, by omega, rfl⟩⟩
        obtain ⟨d1, d2, d3⟩ := hx
        omega
      · refine ⟨0, by omega, by rw [pk_un e, h3 _ (by omega)]; rfl, fun x hx => ?_, Or.inl rfl⟩
        obtain ⟨d1, d2, d3⟩ := hx
        omega
    · rw [if_neg (show ¬ 36864 ≤ nI i from nI_ge (b := 36864) (by omega) (by omega)), wrI_n _ _ (by omega) (by decide), bd, nI_1]
      exact ih (i + 1) next _ (by omega) (by omega) (fun j hj => by
        by_cases e : j = i
        · rw [e, pk_us]
        · rw [pk_un e]; exact h3 j (by omega))
theorem findPrefer_ok (hN : 40000 ≤ N) (hG : GD K P S W T) (hs : ∀ q, q < 6 → ms q = nI (S q)) (hw : ∀ a q, a < 8 → q < 6 → mw (a * 6 + q) = nI (W a q)) (m5 : ∀ g a, g < 4 → a < 8 → mt (g * 8 + a) = nI (T g a)) {g : Nat} (hg : g < 4) (full : Int32) (next pref weight : Nat → Int32) :
    ∃ next' pref' weight', f_X8_findPrefer N (nI K) (nI P) ms mt mw full next pref weight (nI g) = some (nI (wgt S P - 1), next', pref', weight') ∧ PT P S W (T g) K pref' := by
  have hS : ∀ q, q < 6 → S q ≤ 3 := fun q _ => hG.S3 q
  unfold f_X8_findPrefer
  obtain ⟨w', e1, e2⟩ := X8_weights N P S ms weight full hG.P6 hs hS hN
  rw [e1, bd]
  obtain ⟨next', pref', e3, e4⟩ := pr_6 (N := N) (mt := mt) hN hG.K8 hG.P6 hs hS hG.W6 hw e2 hG.T6 m5 hg N 0 next pref (by omega) (by omega) (fun j hj => absurd hj (Nat.not_lt_zero j))
  exact ⟨next', pref', w', e3, e4⟩
end PREFER2
