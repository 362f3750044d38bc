/-! LOTS7: chance, both sides -/
section LOTS7
variable {N K P : Nat} {S : Nat → Nat} {W T : Nat → Nat → Nat}
def Zd (fl lo : Nat) (wy : Nat → Int32) : Prop := ∀ g s, s ≤ fl → 4096 * g + s < lo → wy (4096 * g + s) = nI (if 4096 * g + s = fl then 1 else 0)
theorem Zd_put {fl g s : Nat} {wy : Nat → Int32} (hfl : fl < 4096) (h : Zd fl (4096 * g + s) wy) {v : Int32} (hv : v = nI (if 4096 * g + s = fl then 1 else 0)) : Zd fl (4096 * g + (s + 1)) (upd wy (4096 * g + s) v) := by
  intro g' s' hs' hl
  unfold upd
  by_cases e : 4096 * g' + s' = 4096 * g + s
  · rw [if_pos e, e]; exact hv
  · rw [if_neg e]; exact h g' s' hs' (by omega)
theorem r_42 {ca cp : Int32} {ms mw weight : Nat → Int32} {fl g : Nat} (hfl : fl < 4096) (hg : g < 256) {v1 v2 v3 : Int32} {k33 : Int32 → (Nat → Int32) → (Nat → Int32) → Int32 → Int32 → Int32 → Int32 → Option (Int32 × Int32 × (Nat → Int32) × (Nat → Int32))} :
    ∀ (n s : Nat) (wy : Nat → Int32), s ≤ fl + 1 → fl + 1 - s < n → Zd fl (4096 * g + s) wy →
      ∃ wy', f_X8_chance_42 N ca cp ms mw k33 n (nI fl) wy weight v1 v2 v3 (nI g) (nI s) = k33 (nI fl) wy' weight v1 v2 v3 (nI (g + 1)) ∧ Zd fl (4096 * (g + 1)) wy' := by
  intro n
  induction n with
  | zero => intro s wy h1 h2; omega
  | succ n ih =>
    intro s wy hs hn hz
    rw [f_X8_chance_42]
    rcases Nat.eq_or_lt_of_le hs with e | e
    · subst e
      rw [if_pos (nI_lt (by omega) (by omega)), nI_1]
      exact ⟨wy, rfl, fun g' s' hs' hl => hz g' s' hs' (by omega)⟩
    · have ei : (4096 : Int32) * nI g + nI s = nI (4096 * g + s) := by rw [show (4096 : Int32) = nI 4096 from rfl, nI_mul, nI_add]
      have w0 : ∀ v : Int32, v = nI (if 4096 * g + s = fl then 1 else 0) → ∃ wy', f_X8_chance_83 N ca cp ms mw (f_X8_chance_42 N ca cp ms mw k33 n) (nI fl) wy weight v1 v2 v3 (nI g) (nI s) (4096 * nI g + nI s) v = k33 (nI fl) wy' weight v1 v2 v3 (nI (g + 1)) ∧ Zd fl (4096 * (g + 1)) wy' := by
        intro v hv
        unfold f_X8_chance_83
        rw [ei, wrI_n _ _ (by omega) (by decide), bd, nI_1]
        exact ih (s + 1) _ (by omega) (by omega) (Zd_put hfl hz hv)
      rw [if_neg (nI_nlt (by omega) (by omega))]
      by_cases hg0 : g = 0
      · rw [if_pos (show nI g = 0 by rw [hg0]; rfl)]
        by_cases hsf : s = fl
        · rw [if_pos (congrArg nI hsf)]
          exact w0 1 (by rw [if_pos (by omega)]; rfl)
        · rw [if_neg (nI_ne (by omega) (by omega) hsf)]
          exact w0 0 (by rw [if_neg (by omega)]; rfl)
      · rw [if_neg (nI_ne0 (by omega) (by omega))]
        exact w0 0 (by rw [if_neg (by omega)]; rfl)
theorem r_33 (hN : 40000 ≤ N) {ca cp : Int32} {ms mw weight : Nat → Int32} {fl M : Nat} (hfl : fl < 4096) (hM : M ≤ 256) {v1 v2 : Int32} :
    ∀ (n g : Nat) (wy : Nat → Int32), g ≤ M → M - g < n → Zd fl (4096 * g) wy →
      ∃ wy', f_X8_chance_33 N ca cp ms mw n (nI fl) wy weight v1 v2 (nI M) (nI g) = f_X8_chance_102 N ca cp ms mw N (nI fl) wy' weight v1 v2 (nI M) 0 0 ∧ Zd fl (4096 * M) wy' := by
  intro n
  induction n with
  | zero => intro g wy h1 h2; omega
  | succ n ih =>
    intro g wy hg hn hz
    rw [f_X8_chance_33]
    rcases Nat.eq_or_lt_of_le hg with e | e
    · subst e
      rw [if_pos (nI_le (Nat.le_refl _) (by omega))]
      exact ⟨wy, rfl, hz⟩
    · rw [if_neg (nI_ge e (by omega))]
      obtain ⟨wy', e1, e2⟩ := r_42 (N := N) (ca := ca) (cp := cp) (ms := ms) (mw := mw) (weight := weight) (v1 := v1) (v2 := v2) (v3 := nI M) (k33 := f_X8_chance_33 N ca cp ms mw n) hfl (g := g) (by omega) N 0 wy (Nat.zero_le _) (by omega) hz
      rw [nI_0] at e1
      rw [e1]
      exact ih (g + 1) wy' (by omega) (by omega) e2
theorem full_eq (hP : P ≤ 6) (hS : ∀ q, S q ≤ 3) : dig S (wgt S P - 1) = d4 (e4 S P) := by
  funext q
  rcases Nat.lt_or_ge q P with z | z
  · rw [dig_full S z, d4_e4 (fun q => by have := hS q; omega) P q z]
  · have h1 := e4_lt (fun q => Nat.lt_succ_of_le (hS q)) P
    have h2 : 4 ^ P ≤ 4 ^ q := p4_le z
    have h3 := wgt_mono S z
    have h4 := wgt_pos S P
    unfold dig d4
    rw [Nat.div_eq_of_lt (show wgt S P - 1 < wgt S q by omega), Nat.div_eq_of_lt (by omega), Nat.zero_mod, Nat.zero_mod]
/-- the document's answer -/
def chV (K P : Nat) (S : Nat → Nat) (W : Nat → Nat → Nat) (x y : Nat) : Nat := lF K P W x y K 0 (d4 (e4 S P))
theorem fac_8 {K : Nat} (hK : K ≤ 8) : fac K ≤ 40320 := by
  rcases (show K = 0 ∨ K = 1 ∨ K = 2 ∨ K = 3 ∨ K = 4 ∨ K = 5 ∨ K = 6 ∨ K = 7 ∨ K = 8 by omega) with e | e | e | e | e | e | e | e | e <;> subst e <;> decide
theorem X8_chance_ok (hN : 40000 ≤ N) (hK : K ≤ 8) (hP : P ≤ 6) (hS : ∀ q, S q ≤ 3) (hW : ∀ a q, W a q ≤ 6) {ms mw weight : Nat → Int32} (hms : ∀ q, q < 6 → ms q = nI (S q)) (hw4 : ∀ a q, a < 8 → q < 6 → mw (a * 6 + q) = nI (W a q)) {full : Int32} {wy : Nat → Int32} {x y : Nat} (hx : x < K) (hy : y < P) :
    ∃ fu wy' we, f_X8_chance N (nI K) (nI P) ms mw full wy weight (nI x) (nI y) = some (nI (chV K P S W x y), fu, wy', we) := by
  unfold f_X8_chance
  rw [X8_isAsker_ok hK, bd, if_pos (isM_nI hx (by omega)), if_neg one_ne, X8_isPlace_ok hP, bd, if_pos (isM_nI hy (by omega)), if_neg one_ne]
  obtain ⟨we, e1, e2⟩ := X8_weights N P S ms weight full hP hms (fun q _ => hS q) hN
  rw [e1, bd]
  simp only
  have hfl : wgt S P - 1 < 4096 := by
    have := wgt_le6 S (fun q _ => hS q) hP
    have := wgt_pos S P
    omega
  have hp8 : 2 ^ K ≤ 256 := (Nat.pow_le_pow_right (by decide) hK : 2 ^ K ≤ 2 ^ 8)
  have hp0 : 0 < 2 ^ K := Nat.pow_pos (by decide)
  obtain ⟨wy1, d1, d2⟩ := r_33 (N := N) (ca := nI K) (cp := nI P) (ms := ms) (mw := mw) (weight := we) (v1 := nI x) (v2 := nI y) hN hfl (M := 2 ^ K) hp8 N 0 wy (Nat.zero_le _) (by omega) (fun g s _ h => by omega)
  rw [nI_0] at d1
  rw [one_sh (by omega), d1]
  have hv : WvOk (2 ^ K) (wgt S P - 1) (addAt (fun _ => 0) (wgt S P - 1) 1) wy1 := by
    refine ⟨fun g s hg hs => ?_, fun g s h1 h2 => ?_⟩
    · rw [d2 g s hs (by omega)]
      unfold addAt
      split <;> rfl
    · unfold addAt
      rw [if_neg (by omega)]
  have eP : ∀ h : Nat → Nat, psum (addAt (fun _ => 0) (wgt S P - 1) 1) h (4096 * 0) (4096 * 2 ^ K - 4096 * 0) = h (wgt S P - 1) := by
    intro h
    rw [psum_add _ _ (by omega) (by omega), psum_zero, Nat.zero_add, Nat.one_mul]
  have hdiv : (wgt S P - 1) / 4096 = 0 := Nat.div_eq_of_lt hfl
  obtain ⟨wy2, g1⟩ := r_102 hN hK hP hms (fun q _ => hS q) hW hw4 e2 hfl (x := x) (y := y) (by omega) (by omega) N 0 0 _ wy1 (Nat.zero_le _) (by omega) hv (by
    rw [eP]
    unfold gB
    rw [hdiv, cnL_0]
    exact fac_8 hK)
  rw [nI_0, eP, Nat.zero_add] at g1
  rw [g1]
  have : gL K P S W x y (wgt S P - 1) = chV K P S W x y := by
    unfold gL chV
    rw [hdiv, Nat.mod_eq_of_lt hfl, if_pos (bt_0 x), cnL_0, full_eq hP hS]
  rw [this]
  exact ⟨_, _, _, rfl⟩
/-! the class -/
theorem key_up {k r : Nat} (h : k < (r + 1) * 1048576) : k < (r + 1 + 1) * 1048576 := Nat.lt_of_lt_of_le h (Nat.mul_le_mul_right _ (Nat.le_succ _))
theorem lkey_ge {r g L : Nat} : r * 1048576 ≤ lkey r g L := by
  unfold lkey
  rw [Nat.add_assoc]
  exact Nat.le_add_right _ _
def AnsOk (K P : Nat) (S : Nat → Nat) (W : Nat → Nat → Nat) (ans : Nat → Int32) : Prop := ∀ a q, a < 8 → q < 6 → ans (a * 6 + q) = -1 ∨ a < K ∧ q < P ∧ ans (a * 6 + q) = nI (chV K P S W a q)
def LotsOk (K P : Nat) (S : Nat → Nat) (W : Nat → Nat → Nat) (c : Nat) (cage lage : Int32) (runs : Int64) (ans : Nat → Int32) (mk : Nat → Int64) : Prop :=
  ∃ A L r, cage = nI A ∧ lage = oI L ∧ L ≤ A + 1 ∧ A ≤ c ∧ runs = lN r ∧ r ≤ c ∧ (L = A + 1 → AnsOk K P S W ans) ∧ ∀ i, i < 2048 → ∃ k, k < (r + 1) * 1048576 ∧ mk i = lN k
theorem LotsOk.old {K' P' : Nat} {S' : Nat → Nat} {W' : Nat → Nat → Nat} {c : Nat} {cage lage : Int32} {runs : Int64} {ans : Nat → Int32} {mk : Nat → Int64} (h : LotsOk K P S W c cage lage runs ans mk) : LotsOk K' P' S' W' (c + 1) (cage + 1) lage runs ans mk := by
  obtain ⟨A, L, r, h1, h2, h3, h4, h5, h6, h7, h8⟩ := h
  exact ⟨A + 1, L, r, by rw [h1, nI_1], h2, by omega, by omega, h5, by omega, fun h => by omega, h8⟩
theorem LotsOk.le {c c' : Nat} (hc : c ≤ c') {cage lage : Int32} {runs : Int64} {ans : Nat → Int32} {mk : Nat → Int64} (h : LotsOk K P S W c cage lage runs ans mk) : LotsOk K P S W c' cage lage runs ans mk := by
  obtain ⟨A, L, r, h1, h2, h3, h4, h5, h6, h7, h8⟩ := h
  exact ⟨A, L, r, h1, h2, h3, by omega, h5, by omega, h7, h8⟩
theorem o_27 (hN : 40000 ≤ N) {cage : Int32} {cl cs cw : Nat → Int32} {lage : Int32} {runs : Int64} {wg wd : Int32} {mk : Nat → Int64} {mm : Nat → Int32} {v1 v2 : Int32} :
    ∀ (n i : Nat) (ans : Nat → Int32), i ≤ 48 → 48 - i < n → (∀ j, j < i → ans j = -1) →
      ∃ ans', (∀ j, j < 48 → ans' j = -1) ∧ f_X2_ordersFor_27 N (nI K) (nI P) cage cl cs cw n lage runs wg wd ans mk mm v1 v2 (nI i) = f_X2_ordersFor_46 N (nI K) (nI P) cage cl cs cw lage runs wg wd ans' mk mm v1 v2 := by
  intro n
  induction n with
  | zero => intro i ans h1 h2; omega
  | succ n ih =>
    intro i ans hi hn h
    rw [f_X2_ordersFor_27]
    rcases Nat.eq_or_lt_of_le hi with e | e
    · subst e
      rw [if_pos (by decide)]
      exact ⟨ans, h, rfl⟩
    · rw [if_neg (show ¬ (48 : Int32) ≤ nI i from nI_ge (b := 48) e (by decide)), wrI_n _ _ (by omega) (by decide), bd, nI_1]
      refine ih (i + 1) _ (by omega) (by omega) (fun j hj => ?_)
      unfold upd
      split
      · rfl
      · exact h j (by omega)
theorem o_46 (hN : 40000 ≤ N) (hG : GD K P S W T) {cage : Int32} {cl cs cw : Nat → Int32} (hl : LikesOk P W cl) (hs3 : ∀ q, q < 6 → cs q = nI (S q)) (hw4 : ∀ a q, a < 8 → q < 6 → cw (a * 6 + q) = nI (W a q))
    {c A : Nat} {lage : Int32} {r : Nat} {wg wd : Int32} {ans : Nat → Int32} {mk : Nat → Int64} {mm : Nat → Int32} (hc : c < 1000000) (hr : r ≤ c) (hA : A ≤ c) (ha1 : cage = nI A) (ha2 : lage = oI (A + 1)) (han : AnsOk K P S W ans) (hmk : ∀ i, i < 2048 → ∃ k, k < (r + 1) * 1048576 ∧ mk i = lN k) {x y : Nat} (hx : x < K) (hy : y < P) :
    ∃ runs' wg' wd' ans' mk' mm', f_X2_ordersFor_46 N (nI K) (nI P) cage cl cs cw lage (lN r) wg wd ans mk mm (nI x) (nI y) = some (nI (chV K P S W x y), lage, runs', wg', wd', ans', mk', mm') ∧ LotsOk K P S W (c + 1) cage lage runs' ans' mk' := by
  have hK := hG.K8
  have hP := hG.P6
  unfold f_X2_ordersFor_46
  rw [ix6, rdI_n _ (by omega) (by decide), bd]
  by_cases h1 : ans (x * 6 + y) = -1
  · rw [if_pos h1, X0_wishOf_ok hw4 (by omega) (by omega), bd]
    have fin : ∀ (mk' : Nat → Int64) (mm' : Nat → Int32), (∀ i, i < 2048 → ∃ k, k < (r + 1 + 1) * 1048576 ∧ mk' i = lN k) →
      ∃ runs' wg' wd' ans' mk2 mm2, f_X2_ordersFor_120 N (nI K) (nI P) cage cl cs cw lage (lN (r + 1)) (nI x) (nI y) ans mk' mm' (nI x) (nI y) (nI (x * 6 + y)) (nI (chV K P S W x y)) = some (nI (chV K P S W x y), lage, runs', wg', wd', ans', mk2, mm2) ∧ LotsOk K P S W (c + 1) cage lage runs' ans' mk2 := by
      intro mk' mm' hmk'
      unfold f_X2_ordersFor_120 f_X2_ordersFor_121
      rw [wrI_n _ _ (by omega) (by decide), bd, ix6, rdI_n _ (by omega) (by decide), bd]
      refine ⟨lN (r + 1), _, _, _, _, _, by rw [show upd ans (x * 6 + y) (nI (chV K P S W x y)) (x * 6 + y) = nI (chV K P S W x y) from if_pos rfl], A, A + 1, r + 1, ha1, ha2, Nat.le_refl _, by omega, rfl, by omega, fun _ a q ha hq => ?_, hmk'⟩
      unfold upd
      by_cases e : a * 6 + q = x * 6 + y
      · obtain ⟨rfl, rfl⟩ : a = x ∧ q = y := by omega
        rw [if_pos rfl]
        exact Or.inr ⟨hx, hy, rfl⟩
      · rw [if_neg e]
        exact han a q ha hq
    rw [lN_1]
    by_cases h0 : W x y = 0
    · rw [h0, if_pos nI_0]
      have hz : chV K P S W x y = 0 := lF_wish hP h0 _ _ _
      have := fin mk mm (fun i hi => by
        obtain ⟨k, k1, k2⟩ := hmk i hi
        exact ⟨k, key_up k1, k2⟩)
      rw [hz, nI_0] at this
      rw [hz, nI_0]
      exact this
    · have h6 := hG.W6 x y
      rw [if_neg (nI_ne0 (by omega) (by omega)), X0_seatBits_ok hN hP hG.S3 hs3, bd]
      have he4 : e4 S P < 4096 := Nat.lt_of_lt_of_le (e4_lt (fun q => Nat.lt_succ_of_le (hG.S3 q)) P) (p4_le (n := 6) hP)
      obtain ⟨mk', mm', e, hk'⟩ := from_ok (K := K) (P := P) (W := W) (cl := cl) (x := x) (y := y) (r := r + 1) hN hK hP hG.W6 hl (by omega) (by omega) (by omega) 10 0 (e4 S P) 0 mk mm (by decide) he4 (by rw [cnL_0]; rfl) (by rw [cnL_0]; omega) (fun i hi => by
        obtain ⟨k, k1, k2⟩ := hmk i hi
        exact ⟨k, key_up k1, k2, fun g L hg hL he => absurd k1 (Nat.not_lt.mpr (by rw [he]; exact lkey_ge))⟩)
      rw [nI_0, cnL_0] at e
      rw [e, bd]
      exact fin mk' mm' (fun i hi => by
        obtain ⟨k, k1, k2, _⟩ := hk' i hi
        exact ⟨k, k1, k2⟩)
  · rw [if_neg h1]
    unfold f_X2_ordersFor_121
    rw [ix6, rdI_n _ (by omega) (by decide), bd]
    rcases han x y (by omega) (by omega) with z | ⟨_, _, z⟩
    · exact absurd z h1
    · rw [z]
      exact ⟨lN r, _, _, _, _, _, rfl, A, A + 1, r, ha1, ha2, Nat.le_refl _, by omega, rfl, by omega, fun _ => han, hmk⟩
theorem call_chance (hN : 40000 ≤ N) (hG : GD K P S W T) {x y : Int32} {c : Nat} (hc : c < 1000000) {ca cp ma mp cage lage wg wd fu : Int32} {runs : Int64} {cs cl ct cw ms mw mt ans mm ways we : Nat → Int32} {mk : Nat → Int64} (hB : SB K P S W T ca cp cs cl ct cw) (hM : RepM K P S W T ma mp ms mw mt) (hL : LotsOk K P S W c cage lage runs ans mk) :
    ∃ r lage' runs' wg' wd' ans' mk' mm' fu' ways' we', f_X7_chance N ca cp cage cl cs cw lage runs wg wd ans mk mm x y = some (r, lage', runs', wg', wd', ans', mk', mm') ∧ f_X8_chance N ma mp ms mw fu ways we x y = some (r, fu', ways', we') ∧ LotsOk K P S W (c + 1) cage lage' runs' ans' mk' := by
  obtain ⟨⟨e1, e2, e3, e4', e5⟩, hl⟩ := hB
  obtain ⟨m1, m2, m3, m4, m5⟩ := hM
  subst e1; subst m1; subst e2; subst m2
  have hK := hG.K8
  have hP := hG.P6
  by_cases hx : isM K x
  · by_cases hy : isM P y
    · obtain ⟨j, hj, rfl⟩ := isM_ex hx
      obtain ⟨q, hq, rfl⟩ := isM_ex hy
      obtain ⟨fu', ways', we', d⟩ := X8_chance_ok (full := fu) (wy := ways) (weight := we) hN hK hP hG.S3 hG.W6 m3 m4 hj hq
      obtain ⟨A, L, r, h1, h2, h3, h4, h5, h6, h7, h8⟩ := hL
      subst h1; subst h2; subst h5
      unfold f_X7_chance
      rw [X0_isAsker_ok hK, bd, if_pos hx, if_neg one_ne, X0_isPlace_ok hP, bd, if_pos hy, if_neg one_ne]
      unfold f_X2_ordersFor
      by_cases hLA : L = A + 1
      · subst hLA
        rw [if_pos (oI_s A)]
        obtain ⟨runs', wg', wd', ans', mk', mm', f1, f2⟩ := o_46 (lage := oI (A + 1)) (wg := wg) (wd := wd) (mm := mm) hN hG hl e3 e4' hc h6 h4 rfl rfl (h7 rfl) h8 hj hq
        rw [f1, bd]
        exact ⟨_, _, _, _, _, _, _, _, _, _, _, rfl, d, f2⟩
      · rw [if_neg (fun h => hLA (by rw [q_on (by omega) (by omega)] at h; exact h))]
        obtain ⟨ans1, a1, a2⟩ := o_27 (K := K) (P := P) (cage := nI A) (cl := cl) (cs := cs) (cw := cw) (lage := nI A) (runs := lN r) (wg := wg) (wd := wd) (mk := mk) (mm := mm) (v1 := nI j) (v2 := nI q) hN N 0 ans (Nat.zero_le _) (by omega) (fun j hj => absurd hj (Nat.not_lt_zero j))
        rw [nI_0] at a2
        rw [a2]
        obtain ⟨runs', wg', wd', ans', mk', mm', f1, f2⟩ := o_46 (lage := nI A) (wg := wg) (wd := wd) (mm := mm) hN hG hl e3 e4' hc h6 h4 rfl (oI_s A).symm (fun a q ha hq => Or.inl (a1 _ (by omega))) h8 hj hq
        rw [f1, bd]
        exact ⟨_, _, _, _, _, _, _, _, _, _, _, rfl, d, f2⟩
    · unfold f_X7_chance f_X8_chance
      rw [X0_isAsker_ok hK, bd, if_pos hx, if_neg one_ne, X0_isPlace_ok hP, bd, if_neg hy, if_pos rfl, X8_isAsker_ok hK, bd, if_pos hx, if_neg one_ne, X8_isPlace_ok hP, bd, if_neg hy, if_pos rfl]
      exact ⟨_, _, _, _, _, _, _, _, _, _, _, rfl, rfl, hL.le (Nat.le_succ c)⟩
  · unfold f_X7_chance f_X8_chance
    rw [X0_isAsker_ok hK, bd, if_neg hx, if_pos rfl, X8_isAsker_ok hK, bd, if_neg hx, if_pos rfl]
    exact ⟨_, _, _, _, _, _, _, _, _, _, _, rfl, rfl, hL.le (Nat.le_succ c)⟩
end LOTS7
