/-! LOTS6: the reference's counting, step by step -/
section LOTS6
variable {N K P : Nat} {S : Nat → Nat} {W : Nat → Nat → Nat}
def WvOk (M fl : Nat) (v : Nat → Nat) (wy : Nat → Int32) : Prop :=
  (∀ g s, g < M → s ≤ fl → wy (4096 * g + s) = nI (v (4096 * g + s))) ∧ ∀ g s, fl < s → s < 4096 → v (4096 * g + s) = 0
theorem WvOk_add {M fl : Nat} {v : Nat → Nat} {wy : Nat → Int32} (h : WvOk M fl v wy) (hfl : fl < 4096) {g s w : Nat} (hg : g < M) (hs : s ≤ fl) : WvOk M fl (addAt v (4096 * g + s) w) (upd wy (4096 * g + s) (nI (v (4096 * g + s) + w))) := by
  refine ⟨fun g' s' hg' hs' => ?_, fun g' s' h1 h2 => ?_⟩
  · unfold addAt upd
    by_cases e : 4096 * g' + s' = 4096 * g + s
    · rw [if_pos e, if_pos e, e]
    · rw [if_neg e, if_neg e]
      exact h.1 g' s' hg' hs'
  · unfold addAt
    rw [if_neg (by omega)]
    exact h.2 g' s' h1 h2
theorem r_200 (hN : 40000 ≤ N) (hK : K ≤ 8) (hP : P ≤ 6) {ms mw weight : Nat → Int32} (hms : ∀ q, q < 6 → ms q = nI (S q)) (hS : ∀ q, q < 6 → S q ≤ 3) (hW : ∀ a q, W a q ≤ 6) (hw4 : ∀ a q, a < 8 → q < 6 → mw (a * 6 + q) = nI (W a q)) (hwt : ∀ j, j < P → weight j = nI (wgt S j)) {fl : Nat} (hfl : fl < 4096)
    {x y g s w f0 n' : Nat} {v3 : Int32} (hx : x < 8) (hy : y < 6) (hg : g < 2 ^ K) (hs : s ≤ fl) (hw : w < 2 ^ 31) (hn' : 4096 * g + s + 1 + n' = 4096 * 2 ^ K) {v0 : Nat → Nat}
    {k172 : Int32 → (Nat → Int32) → (Nat → Int32) → Int32 → Int32 → Int32 → Int32 → Int32 → Int32 → Int32 → Option (Int32 × Int32 × (Nat → Int32) × (Nat → Int32))} :
    ∀ (n a found : Nat) (v : Nat → Nat) (wy : Nat → Int32), a ≤ K → K - a < n → WvOk (2 ^ K) fl v wy → found = f0 + w * lsum (cx S W K P x y g s) a →
      (∀ h, psum v h (4096 * g + s + 1) n' = psum v0 h (4096 * g + s + 1) n' + w * lsum (cg S W P g s h) a) →
      ∃ v' wy', f_X8_chance_200 N (nI K) (nI P) ms mw k172 n (nI fl) wy weight (nI x) (nI y) v3 (nI found) (nI g) (nI (fac (cnL K g - 1))) (nI s) (nI w) (nI a)
        = k172 (nI fl) wy' weight (nI x) (nI y) v3 (nI (f0 + w * lsum (cx S W K P x y g s) K)) (nI g) (nI (fac (cnL K g - 1))) (nI (s + 1)) ∧ WvOk (2 ^ K) fl v' wy' ∧
        ∀ h, psum v' h (4096 * g + s + 1) n' = psum v0 h (4096 * g + s + 1) n' + w * lsum (cg S W P g s h) K := by
  have hp8 : 2 ^ K ≤ 256 := (Nat.pow_le_pow_right (by decide) hK : 2 ^ K ≤ 2 ^ 8)
  intro n
  induction n with
  | zero => intro a found v wy h1 h2; omega
  | succ n ih =>
    intro a found v wy ha hf hv hfo hps
    rw [f_X8_chance_200]
    rcases Nat.eq_or_lt_of_le ha with e | e
    · subst e
      rw [if_pos (nI_le (Nat.le_refl _) (by omega)), nI_1, hfo]
      exact ⟨v, wy, rfl, hv, hps⟩
    · rw [if_neg (nI_ge e (by omega))]
      by_cases hw0 : w = 0
      · subst hw0
        rw [if_pos (by decide), nI_1, hfo, Nat.zero_mul, Nat.zero_mul]
        exact ⟨v, wy, rfl, hv, fun h => by rw [hps h, Nat.zero_mul, Nat.zero_mul]⟩
      · rw [if_neg (nI_nle (by omega) hw), bit1 (by omega) (by omega)]
        have hb2 := bt_lt g a
        by_cases hb : bt g a = 0
        · have hg2 : g ||| 2 ^ a < 2 ^ K := Nat.or_lt_two_pow hg (Nat.pow_lt_pow_right (by decide) e)
          have hgt : g < g ||| 2 ^ a := by
            rcases Nat.lt_or_ge g (g ||| 2 ^ a) with z | z
            · exact z
            · have e1 : g ||| 2 ^ a = g := Nat.le_antisymm z Nat.left_le_or
              have := bt_set g a a
              rw [e1, if_pos rfl] at this
              omega
          have hts := tks_le (S := S) (W := W) (P := P) (a := a) (s := s)
          obtain ⟨o, ho, ep⟩ := X8_picks_ok hN hP hms hS hW hw4 hwt (a := a) (s := s) (by omega) (by omega)
          have hoe : o = po (W a) (dig S s) P := bestOf_one hP ho (po_best (W a) (dig S s) P hP)
          have ho6 : o ≤ P := by
            cases o with
            | zero => omega
            | succ q => have := ho.1; omega
          rw [hb, if_pos nI_0, ep, bd, X8_takes_ok N hP hms hS hW hw4 hwt (by omega) ho6 (by omega), bd, hoe, tks_oN hP, one_sh (by omega), nI_or, show (4096 : Int32) = nI 4096 from rfl, nI_mul, nI_add,
            rdI_n _ (by omega) (by decide), bd, wrI_n _ _ (by omega) (by decide), bd, hv.1 _ _ hg2 (Nat.le_trans hts hs), nI_add (v (4096 * (g ||| 2 ^ a) + tks S W P a s)) w]
          have hv2 := WvOk_add (w := w) hv hfl hg2 (Nat.le_trans hts hs)
          have hps2 : ∀ h, psum (addAt v (4096 * (g ||| 2 ^ a) + tks S W P a s) w) h (4096 * g + s + 1) n' = psum v0 h (4096 * g + s + 1) n' + w * lsum (cg S W P g s h) (a + 1) := by
            intro h
            rw [psum_add _ _ (by omega) (by omega), hps h, lsum, Nat.mul_add, show cg S W P g s h a = h (4096 * (g ||| 2 ^ a) + tks S W P a s) from if_pos hb]
            omega
          by_cases hax : a = x
          · rw [if_pos (congrArg nI hax)]
            by_cases hoy : po (W a) (dig S s) P = y + 1
            · rw [if_pos (show nI (po (W a) (dig S s) P) = nI y + 1 by rw [hoy, nI_1]), nI_mul, nI_add, nI_1]
              refine ih (a + 1) _ _ _ (by omega) (by omega) hv2 ?_ hps2
              rw [lsum, Nat.mul_add, ← Nat.add_assoc, ← hfo, show cx S W K P x y g s a = fac (cnL K g - 1) by unfold cx; rw [if_pos hb, if_pos hax, if_pos hoy]]
            · rw [if_neg (show ¬ nI (po (W a) (dig S s) P) = nI y + 1 from fun h => hoy (by rw [nI_1] at h; exact nI_inj (by omega) (by omega) h)), Int32.add_zero, nI_1]
              refine ih (a + 1) _ _ _ (by omega) (by omega) hv2 ?_ hps2
              rw [lsum, show cx S W K P x y g s a = 0 by unfold cx; rw [if_pos hb, if_pos hax, if_neg hoy]]
              exact hfo
          · rw [if_neg (nI_ne (by omega) (by omega) hax), Int32.add_zero, nI_1]
            refine ih (a + 1) _ _ _ (by omega) (by omega) hv2 ?_ hps2
            rw [lsum, show cx S W K P x y g s a = 0 by unfold cx; rw [if_pos hb, if_neg hax]]
            exact hfo
        · rw [show bt g a = 1 by omega, if_neg (by decide), nI_1]
          refine ih (a + 1) _ _ _ (by omega) (by omega) hv ?_ (fun h => ?_)
          · rw [lsum, show cx S W K P x y g s a = 0 by unfold cx; rw [if_neg hb]]
            exact hfo
          · rw [lsum, show cg S W P g s h a = 0 by unfold cg; rw [if_neg hb]]
            exact hps h
theorem r_172 (hN : 40000 ≤ N) (hK : K ≤ 8) (hP : P ≤ 6) {ms mw weight : Nat → Int32} (hms : ∀ q, q < 6 → ms q = nI (S q)) (hS : ∀ q, q < 6 → S q ≤ 3) (hW : ∀ a q, W a q ≤ 6) (hw4 : ∀ a q, a < 8 → q < 6 → mw (a * 6 + q) = nI (W a q)) (hwt : ∀ j, j < P → weight j = nI (wgt S j)) {fl : Nat} (hfl : fl < 4096)
    {x y g : Nat} {v3 : Int32} (hx : x < 8) (hy : y < 6) (hg : g < 2 ^ K) {k102 : Int32 → (Nat → Int32) → (Nat → Int32) → Int32 → Int32 → Int32 → Int32 → Int32 → Option (Int32 × Int32 × (Nat → Int32) × (Nat → Int32))} :
    ∀ (n s found : Nat) (v : Nat → Nat) (wy : Nat → Int32), s ≤ fl + 1 → fl + 1 - s < n → WvOk (2 ^ K) fl v wy → psum v (gB K) (4096 * g + s) (4096 * 2 ^ K - (4096 * g + s)) ≤ 40320 →
      ∃ v' wy' found', f_X8_chance_172 N (nI K) (nI P) ms mw k102 n (nI fl) wy weight (nI x) (nI y) v3 (nI found) (nI g) (nI (fac (cnL K g - 1))) (nI s)
        = k102 (nI fl) wy' weight (nI x) (nI y) v3 (nI found') (nI (g + 1)) ∧ WvOk (2 ^ K) fl v' wy' ∧
        found' + psum v' (gL K P S W x y) (4096 * (g + 1)) (4096 * 2 ^ K - 4096 * (g + 1)) = found + psum v (gL K P S W x y) (4096 * g + s) (4096 * 2 ^ K - (4096 * g + s)) ∧
        psum v' (gB K) (4096 * (g + 1)) (4096 * 2 ^ K - 4096 * (g + 1)) ≤ 40320 := by
  have hp8 : 2 ^ K ≤ 256 := (Nat.pow_le_pow_right (by decide) hK : 2 ^ K ≤ 2 ^ 8)
  intro n
  induction n with
  | zero => intro s found v wy h1 h2; omega
  | succ n ih =>
    intro s found v wy hs hn hv hB
    rw [f_X8_chance_172]
    rcases Nat.eq_or_lt_of_le hs with e | e
    · subst e
      have sk : ∀ h, psum v h (4096 * g + (fl + 1)) (4096 * 2 ^ K - (4096 * g + (fl + 1))) = psum v h (4096 * (g + 1)) (4096 * 2 ^ K - 4096 * (g + 1)) := by
        intro h
        have := psum_skip (v := v) (g := h) (4096 - (fl + 1)) (4096 * g + (fl + 1)) (4096 * 2 ^ K - 4096 * (g + 1)) (fun j h1 h2 => by
          have := hv.2 g (j - 4096 * g) (by omega) (by omega)
          rw [show 4096 * g + (j - 4096 * g) = j by omega] at this
          exact this)
        rw [show 4096 - (fl + 1) + (4096 * 2 ^ K - 4096 * (g + 1)) = 4096 * 2 ^ K - (4096 * g + (fl + 1)) by omega, show 4096 * g + (fl + 1) + (4096 - (fl + 1)) = 4096 * (g + 1) by omega] at this
        exact this
      rw [if_pos (nI_lt (by omega) (by omega)), nI_1]
      rw [sk] at hB
      exact ⟨v, wy, found, rfl, hv, by rw [sk], hB⟩
    · have hs' : s ≤ fl := by omega
      have hlt : 4096 * g + s < 4096 * 2 ^ K := by omega
      have hvb : v (4096 * g + s) ≤ 40320 := by
        rw [psum_head hlt] at hB
        have h1 : 1 ≤ gB K (4096 * g + s) := fac_pos _
        have := Nat.le_mul_of_pos_right (v (4096 * g + s)) h1
        omega
      rw [if_neg (nI_nlt hs' (by omega)), show (4096 : Int32) = nI 4096 from rfl, nI_mul, nI_add, rdI_n _ (by omega) (by decide), bd, hv.1 g s hg hs']
      obtain ⟨v', wy', e1, e2, e3⟩ := r_200 (w := v (4096 * g + s)) (v0 := v) (f0 := found) (n' := 4096 * 2 ^ K - (4096 * g + s + 1)) (v3 := v3) (k172 := f_X8_chance_172 N (nI K) (nI P) ms mw k102 n) hN hK hP hms hS hW hw4 hwt hfl hx hy hg hs' (by omega) (by omega) N 0 found v wy (Nat.zero_le _) (by omega) hv (by rw [lsum, Nat.mul_zero, Nat.add_zero]) (fun h => by rw [lsum, Nat.mul_zero]; rfl)
      rw [nI_0] at e1
      rw [e1]
      have gl := gL_step (S := S) (W := W) (K := K) hP (x := x) (y := y) (g := g) (s := s) (by omega)
      have gb := gB_step (S := S) (W := W) (P := P) (K := K) (g := g) (s := s) (by omega)
      have eB := e3 (gB K)
      have eL := e3 (gL K P S W x y)
      rw [psum_head hlt] at hB
      have hB2 : psum v' (gB K) (4096 * g + (s + 1)) (4096 * 2 ^ K - (4096 * g + (s + 1))) ≤ 40320 := by
        rw [← Nat.add_assoc, eB]
        have := Nat.mul_le_mul_left (v (4096 * g + s)) gb
        omega
      obtain ⟨v2, wy2, f2, d1, d2, d3, d4⟩ := ih (s + 1) _ v' wy' (by omega) (by omega) e2 hB2
      refine ⟨v2, wy2, f2, d1, d2, ?_, d4⟩
      rw [d3, psum_head hlt, ← Nat.add_assoc, eL, ← gl, Nat.mul_add]
      omega
theorem r_149 {g : Nat} {full : Int32} {wy weight : Nat → Int32} {v1 v2 v3 v4 v5 : Int32} {m : Nat} (hm : m ≤ 8) {k102 : Int32 → (Nat → Int32) → (Nat → Int32) → Int32 → Int32 → Int32 → Int32 → Int32 → Option (Int32 × Int32 × (Nat → Int32) × (Nat → Int32))} {ms mw : Nat → Int32} :
    ∀ (n j : Nat), 2 ≤ j → (j ≤ m ∨ j = 2) → 9 - j < n → f_X8_chance_149 N (nI K) (nI P) ms mw k102 n full wy weight v1 v2 v3 v4 v5 (nI (fac (j - 1))) (nI m) (nI j)
      = f_X8_chance_172 N (nI K) (nI P) ms mw k102 N full wy weight v1 v2 v3 v4 v5 (nI (fac (m - 1))) 0 := by
  intro n
  induction n with
  | zero => intro j h1 h2 h3; omega
  | succ n ih =>
    intro j h2 hj hn
    rw [f_X8_chance_149]
    by_cases hc : m ≤ j
    · rw [if_pos (nI_le hc (by omega))]
      have : fac (j - 1) = fac (m - 1) := by
        rcases hj with z | z
        · rw [show j = m by omega]
        · subst z
          rcases (show m = 0 ∨ m = 1 ∨ m = 2 by omega) with e | e | e <;> subst e <;> rfl
      rw [this]
    · rw [if_neg (nI_ge (by omega) (by omega)), nI_mul, nI_1]
      have := ih (j + 1) (by omega) (Or.inl (by omega)) (by omega)
      rw [show fac (j + 1 - 1) = fac (j - 1) * j by
        obtain ⟨i, rfl⟩ : ∃ i, j = i + 1 := ⟨j - 1, by omega⟩
        rw [Nat.add_sub_cancel, Nat.add_sub_cancel, fac, Nat.mul_comm]] at this
      exact this
theorem r_117 (hN : 40000 ≤ N) (hK : K ≤ 8) {g : Nat} (hg : g < 256) {full : Int32} {wy weight : Nat → Int32} {v1 v2 v3 v4 : Int32} {k102 : Int32 → (Nat → Int32) → (Nat → Int32) → Int32 → Int32 → Int32 → Int32 → Int32 → Option (Int32 × Int32 × (Nat → Int32) × (Nat → Int32))} {ms mw : Nat → Int32} :
    ∀ (n a : Nat), a ≤ K → K - a < n → f_X8_chance_117 N (nI K) (nI P) ms mw k102 n full wy weight v1 v2 v3 v4 (nI g) 1 (nI (lsum (fun a => 1 - bt g a) a)) (nI a)
      = f_X8_chance_172 N (nI K) (nI P) ms mw k102 N full wy weight v1 v2 v3 v4 (nI g) (nI (fac (cnL K g - 1))) 0 := by
  intro n
  induction n with
  | zero => intro j h2 h3; omega
  | succ n ih =>
    intro a ha hn
    rw [f_X8_chance_117]
    rcases Nat.eq_or_lt_of_le ha with e | e
    · subst e
      rw [if_pos (nI_le (Nat.le_refl _) (by omega))]
      have hc : cnL a g ≤ 8 := by
        have : ∀ m, cnL m g ≤ m := by
          intro m
          induction m with
          | zero => exact Nat.le_refl _
          | succ m ih => unfold cnL at ih ⊢; rw [lsum]; omega
        have := this a
        omega
      exact r_149 (g := g) hc N 2 (Nat.le_refl _) (Or.inr rfl) (by omega)
    · have hb2 := bt_lt g a
      rw [if_neg (nI_ge e (by omega)), bit1 (by omega) (by omega), show (1 : Int32) - nI (bt g a) = nI (1 - bt g a) from pk_sub (a := 1) (by omega), nI_add, nI_1]
      exact ih (a + 1) (by omega) (by omega)
theorem r_102 (hN : 40000 ≤ N) (hK : K ≤ 8) (hP : P ≤ 6) {ms mw weight : Nat → Int32} (hms : ∀ q, q < 6 → ms q = nI (S q)) (hS : ∀ q, q < 6 → S q ≤ 3) (hW : ∀ a q, W a q ≤ 6) (hw4 : ∀ a q, a < 8 → q < 6 → mw (a * 6 + q) = nI (W a q)) (hwt : ∀ j, j < P → weight j = nI (wgt S j)) {fl : Nat} (hfl : fl < 4096)
    {x y : Nat} (hx : x < 8) (hy : y < 6) :
    ∀ (n g found : Nat) (v : Nat → Nat) (wy : Nat → Int32), g ≤ 2 ^ K → 2 ^ K - g < n → WvOk (2 ^ K) fl v wy → psum v (gB K) (4096 * g) (4096 * 2 ^ K - 4096 * g) ≤ 40320 →
      ∃ wy', f_X8_chance_102 N (nI K) (nI P) ms mw n (nI fl) wy weight (nI x) (nI y) (nI (2 ^ K)) (nI found) (nI g)
        = some (nI (found + psum v (gL K P S W x y) (4096 * g) (4096 * 2 ^ K - 4096 * g)), nI fl, wy', weight) := by
  have hp8 : 2 ^ K ≤ 256 := (Nat.pow_le_pow_right (by decide) hK : 2 ^ K ≤ 2 ^ 8)
  intro n
  induction n with
  | zero => intro g found v wy h1 h2; omega
  | succ n ih =>
    intro g found v wy hg hn hv hB
    rw [f_X8_chance_102]
    rcases Nat.eq_or_lt_of_le hg with e | e
    · rw [e, if_pos (nI_le (Nat.le_refl _) (by omega)), Nat.sub_self]
      exact ⟨wy, rfl⟩
    · rw [if_neg (nI_ge e (by omega))]
      have e1 := r_117 (ms := ms) (mw := mw) (full := nI fl) (wy := wy) (weight := weight) (v1 := nI x) (v2 := nI y) (v3 := nI (2 ^ K)) (v4 := nI found) (P := P) (k102 := f_X8_chance_102 N (nI K) (nI P) ms mw n) hN hK (g := g) (by omega) N 0 (Nat.zero_le _) (by omega)
      rw [lsum, nI_0] at e1
      rw [e1]
      obtain ⟨v', wy', f', d1, d2, d3, d4⟩ := r_172 (v3 := nI (2 ^ K)) (k102 := f_X8_chance_102 N (nI K) (nI P) ms mw n) hN hK hP hms hS hW hw4 hwt hfl hx hy e N 0 found v wy (Nat.zero_le _) (by omega) hv hB
      rw [nI_0] at d1
      rw [d1]
      obtain ⟨wy2, e2⟩ := ih (g + 1) f' v' wy' (by omega) (by omega) d2 d4
      rw [d3] at e2
      exact ⟨wy2, e2⟩
end LOTS6
