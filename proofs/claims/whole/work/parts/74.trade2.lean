/-! trade: the class's rounds and the reference's, one beside the other -/
section TRADE2
variable {N K P : Nat} {S : Nat → Nat} {W T : Nat → Nat → Nat}
theorem upN_s {f : Nat → Nat} {k v : Nat} : upN f k v k = v := if_pos rfl
theorem upN_n {f : Nat → Nat} {k v i : Nat} (h : ¬ i = k) : upN f k v i = f i := if_neg h
/-- all that are left have a target, the others none -/
def PtIs (K : Nat) (W : Nat → Nat → Nat) (L : Nat → Bool) (t p : Nat → Nat) (n : Nat) (points : Nat → Int32) : Prop := ∀ a, a < n → (L a = true → points a = nI (p a) ∧ Tgt K (wo W a) L t a (p a)) ∧ (L a = false → points a = -1)
theorem pa_2 (hN : 40000 ≤ N) (hP : P ≤ 6) (hK : K ≤ 8) (hW : ∀ a q, W a q ≤ 6) {cw : Nat → Int32} (hw4 : ∀ a q, a < 8 → q < 6 → cw (a * 6 + q) = nI (W a q)) {L : Nat → Bool} {t : Nat → Nat} {holds served ho : Nat → Int32} (h : LfIs K L t holds served) (hho : ∀ q, q < 6 → HoIs K L t 0 q (ho q)) (htP : ∀ x, x < K → t x ≤ P) :
    ∀ (n a : Nat) (pt : Nat → Int32) (p : Nat → Nat), a ≤ K → K - a < n → PtIs K W L t p a pt → ∃ pt' p', f_X6_pointAll_2 N (nI K) (nI P) ho holds served cw n pt (nI a) = some pt' ∧ PtIs K W L t p' K pt' := by
  intro n
  induction n with
  | zero => intro a pt p h1 h2; omega
  | succ n ih =>
    intro a pt p ha hn hpt
    rw [f_X6_pointAll_2]
    by_cases hc : K ≤ a
    · have : a = K := by omega
      subst this
      rw [if_pos (nI_le (Nat.le_refl _) (by omega))]
      exact ⟨pt, p, rfl, hpt⟩
    · rw [if_neg (nI_ge (by omega) (by omega)), wrI_n _ _ (by omega) (by decide), bd, X6_isLeft_ok hK h (by omega), bd]
      by_cases hL : L a = true
      · rw [if_pos hL, if_neg one_ne]
        obtain ⟨b, b1, b2⟩ := X6_targetOf_ok (N := N) hN hP hK hW hw4 h hho (show a < K by omega) htP
        rw [b1, bd, wrI_n _ _ (by omega) (by decide), bd, nI_1]
        refine ih (a + 1) _ (upN p a b) (by omega) (by omega) (fun x hx => ?_)
        by_cases e : x = a
        · subst e
          rw [upN_s, pk_us]
          exact ⟨fun _ => ⟨rfl, b2⟩, fun z => by rw [hL] at z; cases z⟩
        · rw [upN_n e, pk_un e, pk_un e]
          exact hpt x (by omega)
      · rw [if_neg hL, if_pos rfl, nI_1]
        refine ih (a + 1) _ p (by omega) (by omega) (fun x hx => ?_)
        by_cases e : x = a
        · subst e
          exact ⟨fun z => absurd z hL, fun _ => pk_us⟩
        · rw [pk_un e]
          exact hpt x (by omega)
theorem X6_isOnRing_ok (hK : K ≤ 8) {L : Nat → Bool} {t p : Nat → Nat} {points : Nat → Int32} (hpt : PtIs K W L t p K points) {a : Nat} (ha : a < K) (hL : L a = true) : f_X6_isOnRing N points (nI a) = f_X6_isOnRing_9 N points N (nI a) (nI (p a)) 0 := by
  unfold f_X6_isOnRing
  rw [rdI_n _ (by omega) (by decide), bd, ((hpt a ha).1 hL).1]
theorem PtIs.next {L : Nat → Bool} {t p : Nat → Nat} {points : Nat → Int32} (hpt : PtIs K W L t p K points) : ∀ x, x < K → L x = true → p x < K ∧ L (p x) = true := fun x hx hL => by
  have := Tgt_in hx hL ((hpt x hx).1 hL).2
  exact ⟨this.1, this.2.1⟩
theorem or_9 (hK : K ≤ 8) {L : Nat → Bool} {t p : Nat → Nat} {points : Nat → Int32} (hpt : PtIs K W L t p K points) {a : Nat} (ha : a < K) :
    ∀ (n i b : Nat), i ≤ 8 → 8 - i < n → b < K → L b = true → f_X6_isOnRing_9 N points n (nI a) (nI b) (nI i) = some (if rwk p a (8 - i) b then 1 else 0) := by
  intro n
  induction n with
  | zero => intro i b h1 h2; omega
  | succ n ih =>
    intro i b hi hn hb hLb
    rw [f_X6_isOnRing_9]
    unfold f_X6_isOnRing_43
    simp (disch := omega) only [bd, rdI_n, wrI_n, rdL_n, wrL_n, ix6, ix6', ix7, ix7', ix8, ix8', nI_1, q_8le, q_eq, q_lt0, if_false]
    by_cases h8 : 8 ≤ i
    · rw [if_pos h8, show 8 - i = 0 by omega, rwk]
      by_cases e : b = a
      · rw [if_pos e, if_pos (decide_eq_true e)]
      · rw [if_neg e, if_neg (by simp [e])]
    · rw [if_neg h8, show 8 - i = 8 - (i + 1) + 1 by omega, rwk]
      by_cases e : b = a
      · rw [if_pos e, if_pos e, if_pos (by simp [e])]
      · rw [if_neg e, if_neg (by omega), ((hpt b hb).1 hLb).1, decide_eq_false e, Bool.false_or]
        obtain ⟨g1, g2⟩ := hpt.next b hb hLb
        exact ih (i + 1) (p b) (by omega) (by omega) g1 g2
theorem X6_ring_ok (hN : 40000 ≤ N) (hK : K ≤ 8) {L : Nat → Bool} {t p : Nat → Nat} {points : Nat → Int32} (hpt : PtIs K W L t p K points) {a : Nat} (ha : a < K) (hL : L a = true) : f_X6_isOnRing N points (nI a) = some (if rgB p a then 1 else 0) := by
  rw [X6_isOnRing_ok hK hpt ha hL]
  obtain ⟨g1, g2⟩ := hpt.next a ha hL
  exact or_9 hK hpt ha N 0 (p a) (Nat.zero_le _) (by omega) g1 g2
theorem ir_9 (hK : K ≤ 8) {L : Nat → Bool} {t p : Nat → Nat} {points : Nat → Int32} (hpt : PtIs K W L t p K points) {a : Nat} (ha : a < K) :
    ∀ (n i b : Nat), i ≤ 8 → 8 - i < n → b < K → L b = true → f_X8_isRing_9 N points n (nI a) (nI b) (nI i) = some (if rwk p a (8 - i) b then 1 else 0) := by
  intro n
  induction n with
  | zero => intro i b h1 h2; omega
  | succ n ih =>
    intro i b hi hn hb hLb
    rw [f_X8_isRing_9]
    unfold f_X8_isRing_33
    simp (disch := omega) only [bd, rdI_n, wrI_n, rdL_n, wrL_n, ix6, ix6', ix7, ix7', ix8, ix8', nI_1, q_8le, q_eq]
    by_cases h8 : 8 ≤ i
    · rw [if_pos h8, show 8 - i = 0 by omega, rwk]
      by_cases e : b = a
      · rw [if_pos e, if_pos (decide_eq_true e)]
      · rw [if_neg e, if_neg (by simp [e])]
    · rw [if_neg h8, show 8 - i = 8 - (i + 1) + 1 by omega, rwk]
      by_cases e : b = a
      · rw [if_pos e, if_pos e, if_pos (by simp [e])]
      · rw [if_neg e, ((hpt b hb).1 hLb).1, decide_eq_false e, Bool.false_or]
        obtain ⟨g1, g2⟩ := hpt.next b hb hLb
        exact ih (i + 1) (p b) (by omega) (by omega) g1 g2
theorem X8_ring_ok (hN : 40000 ≤ N) (hK : K ≤ 8) {L : Nat → Bool} {t p : Nat → Nat} {points : Nat → Int32} (hpt : PtIs K W L t p K points) {a : Nat} (ha : a < K) (hL : L a = true) : f_X8_isRing N points (nI a) = some (if rgB p a then 1 else 0) := by
  unfold f_X8_isRing
  rw [rdI_n _ (by omega) (by decide), bd, ((hpt a ha).1 hL).1]
  obtain ⟨g1, g2⟩ := hpt.next a ha hL
  exact ir_9 hK hpt ha N 0 (p a) (Nat.zero_le _) (by omega) g1 g2
/-- those served in a round -/
def gnB (L : Nat → Bool) (p : Nat → Nat) (a : Nat) : Bool := L a && rgB p a
theorem sv_4 (hN : 40000 ≤ N) (hK : K ≤ 8) {L : Nat → Bool} {t p : Nat → Nat} {points holds : Nat → Int32} (hpt : PtIs K W L t p K points) (hh : ∀ a, a < K → holds a = oI (t a)) {r : Nat} {fo sv : Nat → Nat} :
    ∀ (n a : Nat) (gets served : Nat → Int32), a ≤ K → K - a < n → (∀ x, x < K → gets x = oI (if x < a ∧ gnB L p x = true then t (p x) else fo x)) → (∀ x, x < K → served x = nI (if x < a ∧ gnB L p x = true then r else sv x)) →
      ∃ gets' served', f_X6_serve_4 N (nI K) holds points n gets served (nI r) (nI (fb_ct (gnB L p) a)) (nI a) = some (nI (fb_ct (gnB L p) K), gets', served') ∧ (∀ x, x < K → gets' x = oI (if gnB L p x = true then t (p x) else fo x)) ∧ ∀ x, x < K → served' x = nI (if gnB L p x = true then r else sv x) := by
  intro n
  induction n with
  | zero => intro a g s h1 h2; omega
  | succ n ih =>
    intro a gets served ha hn hg hs
    rw [f_X6_serve_4]
    by_cases hc : K ≤ a
    · have : a = K := by omega
      subst this
      rw [if_pos (nI_le (Nat.le_refl _) (by omega))]
      refine ⟨gets, served, rfl, fun x hx => ?_, fun x hx => ?_⟩
      · rw [hg x hx]
        by_cases e : gnB L p x = true
        · rw [if_pos ⟨hx, e⟩, if_pos e]
        · rw [if_neg (fun z => e z.2), if_neg e]
      · rw [hs x hx]
        by_cases e : gnB L p x = true
        · rw [if_pos ⟨hx, e⟩, if_pos e]
        · rw [if_neg (fun z => e z.2), if_neg e]
    · have hsuc : fb_ct (gnB L p) (a + 1) = fb_ct (gnB L p) a + (if gnB L p a = true then 1 else 0) := rfl
      have hskip : gnB L p a = false → ∃ gets' served', f_X6_serve_4 N (nI K) holds points n gets served (nI r) (nI (fb_ct (gnB L p) a)) (nI a + 1) = some (nI (fb_ct (gnB L p) K), gets', served') ∧ (∀ x, x < K → gets' x = oI (if gnB L p x = true then t (p x) else fo x)) ∧ ∀ x, x < K → served' x = nI (if gnB L p x = true then r else sv x) := by
        intro hgn
        have hxa : ∀ x, ¬ (x < a ∧ gnB L p x = true) → ¬ (x < a + 1 ∧ gnB L p x = true) := by
          rintro x h1 ⟨h2, h3⟩
          rcases Nat.lt_or_ge x a with y | y
          · exact h1 ⟨y, h3⟩
          · rw [show x = a by omega, hgn] at h3; cases h3
        have := ih (a + 1) gets served (by omega) (by omega) (fun x hx => by
          rw [hg x hx]
          by_cases e : x < a ∧ gnB L p x = true
          · rw [if_pos e, if_pos ⟨by omega, e.2⟩]
          · rw [if_neg e, if_neg (hxa x e)]) (fun x hx => by
          rw [hs x hx]
          by_cases e : x < a ∧ gnB L p x = true
          · rw [if_pos e, if_pos ⟨by omega, e.2⟩]
          · rw [if_neg e, if_neg (hxa x e)])
        rw [hsuc, hgn, if_neg (by decide), Nat.add_zero] at this
        rw [nI_1]
        exact this
      rw [if_neg (nI_ge (by omega) (by omega)), rdI_n _ (by omega) (by decide), bd]
      by_cases hL : L a = true
      · obtain ⟨p1, p2⟩ := (hpt a (by omega)).1 hL
        obtain ⟨n1, n2⟩ := hpt.next a (by omega) hL
        rw [p1]
        simp (disch := omega) only [q_lt0, if_false, q_8le]
        rw [if_neg (by omega), X6_ring_ok hN hK hpt (by omega) hL, bd]
        by_cases hr : rgB p a = true
        · have hgn : gnB L p a = true := by unfold gnB; rw [hL, hr]; rfl
          rw [if_pos hr, if_neg one_ne, rdI_n _ (by omega) (by decide), bd, wrI_n _ _ (by omega) (by decide), bd, wrI_n _ _ (by omega) (by decide), bd, hh _ n1]
          have := ih (a + 1) (upd gets a (oI (t (p a)))) (upd served a (nI r)) (by omega) (by omega) (fun x hx => by
            by_cases e : x = a
            · rw [e, pk_us, if_pos ⟨by omega, hgn⟩]
            · rw [pk_un e, hg x hx]
              by_cases e2 : x < a ∧ gnB L p x = true
              · rw [if_pos e2, if_pos ⟨by omega, e2.2⟩]
              · rw [if_neg e2, if_neg (fun z => e2 ⟨by omega, z.2⟩)]) (fun x hx => by
            by_cases e : x = a
            · rw [e, pk_us, if_pos ⟨by omega, hgn⟩]
            · rw [pk_un e, hs x hx]
              by_cases e2 : x < a ∧ gnB L p x = true
              · rw [if_pos e2, if_pos ⟨by omega, e2.2⟩]
              · rw [if_neg e2, if_neg (fun z => e2 ⟨by omega, z.2⟩)])
          rw [hsuc, hgn, if_pos rfl, ← nI_1, ← nI_1] at this
          exact this
        · rw [if_neg hr, if_pos rfl]
          exact hskip (by unfold gnB; rw [hL]; simpa using hr)
      · have hLf : L a = false := by simpa using hL
        rw [(hpt a (by omega)).2 hLf, if_pos (by decide)]
        exact hskip (by unfold gnB; rw [hLf]; rfl)
/-! the reference: left as bits -/
theorem bitL {L : Nat → Bool} {a : Nat} (ha : a < 8) : ((nI (em L 8) >>> (nI a &&& 31)) &&& (1 : Int32)) = nI (if L a then 1 else 0) := by
  have := em_lt L 8
  rw [bit1 (by omega) (by omega), bt_em L 8 a ha]
theorem p126 (hK : K ≤ 8) {L : Nat → Bool} {g : Nat} {mt mw : Nat → Int32} (hg : g < 4) (ht5 : ∀ g a, g < 4 → a < 8 → mt (g * 8 + a) = nI (T g a)) (hT6 : ∀ g a, T g a ≤ 6) {o : Nat} (ho : o ≤ 6) {x0 : Nat} (hx0 : x0 < K) (hLx : L x0 = true) (htx : T g x0 = o) {x1 : Int32} :
    ∀ (n x : Nat), x ≤ x0 → x0 - x < n → (∀ y, y < x → L y = true → T g y ≠ o) → ∃ b, f_X8_pointsAt_126 N (nI K) mt mw n (nI g) (nI (em L 8)) (nI o) (nI x) = some (nI b) ∧ b < K ∧ L b = true ∧ T g b = o ∧ ∀ y, y < b → L y = true → T g y ≠ o := by
  intro n
  induction n with
  | zero => intro x h1 h2; omega
  | succ n ih =>
    intro x hx hn hlow
    rw [f_X8_pointsAt_126, bitL (by omega)]
    have h6 := hT6 g x
    have hnext : (L x = true → T g x ≠ o) → ∃ b, f_X8_pointsAt_126 N (nI K) mt mw n (nI g) (nI (em L 8)) (nI o) (nI x + 1) = some (nI b) ∧ b < K ∧ L b = true ∧ T g b = o ∧ ∀ y, y < b → L y = true → T g y ≠ o := by
      intro hne
      rw [nI_1]
      refine ih (x + 1) ?_ ?_ (fun y hy hL => ?_)
      · rcases Nat.eq_or_lt_of_le hx with z | z
        · subst z; exact absurd htx (hne hLx)
        · exact z
      · rcases Nat.eq_or_lt_of_le hx with z | z
        · subst z; exact absurd htx (hne hLx)
        · omega
      · rcases Nat.lt_or_ge y x with z | z
        · exact hlow y z hL
        · rw [show y = x by omega] at hL ⊢; exact hne hL
    by_cases hL : L x = true
    · rw [if_pos hL, if_neg (by decide), ix8', rdI_n _ (by omega) (by decide), bd, ht5 g x hg (by omega)]
      simp (disch := omega) only [q_eq]
      by_cases e : T g x = o
      · rw [if_pos e]
        exact ⟨x, rfl, by omega, hL, e, hlow⟩
      · rw [if_neg e]
        exact hnext (fun _ => e)
    · rw [if_neg hL, if_pos (by decide)]
      exact hnext (fun z => absurd z hL)
/-- so far, over askers below x, the best option held -/
def BoB (w : Nat → Nat) (L : Nat → Bool) (t : Nat → Nat) (a x o : Nat) : Prop :=
  (o = t a ∧ ∀ y, y < x → L y = true → w (t a) ≤ w (t y)) ∨ (o ≠ t a ∧ w o < w (t a) ∧ (∃ y, y < x ∧ L y = true ∧ t y = o) ∧ ∀ y, y < x → L y = true → w o < w (t y) ∨ (w o = w (t y) ∧ o ≤ t y))
theorem pt_20 (hN : 40000 ≤ N) (hK : K ≤ 8) (hW : ∀ a q, W a q ≤ 6) {L : Nat → Bool} {g : Nat} {mt mw : Nat → Int32} (hg : g < 4) (ht5 : ∀ g a, g < 4 → a < 8 → mt (g * 8 + a) = nI (T g a)) (hT6 : ∀ g a, T g a ≤ 6) (hw4 : ∀ a q, a < 8 → q < 6 → mw (a * 6 + q) = nI (W a q)) {a : Nat} (ha : a < K) :
    ∀ (n x o : Nat), x ≤ K → K - x < n → o ≤ 6 → BoB (wo W a) L (T g) a x o → ∃ b, f_X8_pointsAt_20 N (nI K) mt mw n (nI g) (nI a) (nI (em L 8)) (nI (T g a)) (nI o) (nI x) = some (nI b) ∧ Tgt K (wo W a) L (T g) a b := by
  intro n
  induction n with
  | zero => intro x o h1 h2; omega
  | succ n ih =>
    intro x o hx hn ho hB
    have h6a := hT6 g a
    rw [f_X8_pointsAt_20]
    by_cases hc : K ≤ x
    · have : x = K := by omega
      subst this
      rw [if_pos (nI_le (Nat.le_refl _) (by omega))]
      simp (disch := omega) only [q_eq]
      rcases hB with ⟨b1, b2⟩ | ⟨b1, b2, ⟨y, y1, y2, y3⟩, b4⟩
      · rw [if_pos b1]
        exact ⟨a, rfl, Or.inl ⟨b2, rfl⟩⟩
      · rw [if_neg b1]
        obtain ⟨b, g1, g2, g3, g4, g5⟩ := p126 (N := N) (K := x) (mw := mw) (x1 := 0) hK hg ht5 hT6 ho y1 y2 y3 N 0 (Nat.zero_le _) (by omega) (fun z hz => absurd hz (Nat.not_lt_zero z))
        refine ⟨b, g1, Or.inr ⟨g2, g3, by rw [g4]; exact b2, fun z z1 z2 => by rw [g4]; exact b4 z z1 z2, fun z z1 z2 => by rw [g4]; exact g5 z z1 z2⟩⟩
    · have h6 := hT6 g x
      have h8 := wo_le W hW a (T g x)
      have h8o := wo_le W hW a o
      rw [if_neg (nI_ge (by omega) (by omega)), ix8', rdI_n _ (by omega) (by decide), bd, ht5 g x hg (by omega), bitL (by omega), nI_1]
      have hkeep : (L x = true → wo W a o ≤ wo W a (T g x) ∧ (wo W a o = wo W a (T g x) → o ≤ T g x ∨ o = T g a)) → BoB (wo W a) L (T g) a (x + 1) o := by
        intro hk
        rcases hB with ⟨b1, b2⟩ | ⟨b1, b2, ⟨y, y1, y2, y3⟩, b4⟩
        · refine Or.inl ⟨b1, fun y hy hL => ?_⟩
          rcases Nat.lt_or_ge y x with z | z
          · exact b2 y z hL
          · rw [show y = x by omega] at hL ⊢
            have := (hk hL).1
            rw [b1] at this; exact this
        · refine Or.inr ⟨b1, b2, ⟨y, by omega, y2, y3⟩, fun z hz hL => ?_⟩
          rcases Nat.lt_or_ge z x with u | u
          · exact b4 z u hL
          · rw [show z = x by omega] at hL ⊢
            obtain ⟨k1, k2⟩ := hk hL
            rcases Nat.eq_or_lt_of_le k1 with e | e
            · rcases k2 e with k3 | k3
              · exact Or.inr ⟨e, k3⟩
              · exact absurd k3 b1
            · exact Or.inl e
      have htake : L x = true → (wo W a (T g x) < wo W a o ∨ (wo W a (T g x) = wo W a o ∧ o ≠ T g a ∧ T g x < o)) → BoB (wo W a) L (T g) a (x + 1) (T g x) := by
        intro hL hlt
        have hwt : wo W a (T g x) < wo W a (T g a) := by
          rcases hB with ⟨b1, b2⟩ | ⟨b1, b2, _, _⟩
          · rcases hlt with h | ⟨_, h, _⟩
            · rw [b1] at h; exact h
            · exact absurd b1 h
          · omega
        refine Or.inr ⟨fun e => by rw [e] at hwt; omega, hwt, ⟨x, by omega, hL, rfl⟩, fun z hz hLz => ?_⟩
        rcases Nat.lt_or_ge z x with u | u
        · rcases hB with ⟨b1, b2⟩ | ⟨b1, b2, _, b4⟩
          · have := b2 z u hLz
            exact Or.inl (by omega)
          · have := b4 z u hLz
            omega
        · rw [show z = x by omega]; exact Or.inr ⟨rfl, Nat.le_refl _⟩
      by_cases hL : L x = true
      · rw [if_pos hL, if_pos (show nI 1 = 1 from rfl), X8_worthOf_ok N hW hw4 (by omega) h6, bd, X8_worthOf_ok N hW hw4 (by omega) ho, bd]
        simp (disch := omega) only [q_lt, q_eq, q_le]
        by_cases c1 : wo W a (T g x) < wo W a o
        · rw [if_pos c1]
          exact ih (x + 1) (T g x) (by omega) (by omega) h6 (htake hL (Or.inl c1))
        · rw [if_neg c1]
          by_cases c2 : wo W a (T g x) = wo W a o
          · rw [if_pos c2]
            by_cases c3 : o = T g a
            · rw [if_pos c3]
              exact ih (x + 1) o (by omega) (by omega) ho (hkeep (fun _ => ⟨by omega, fun _ => Or.inr c3⟩))
            · rw [if_neg c3]
              by_cases c4 : o ≤ T g x
              · rw [if_pos c4]
                exact ih (x + 1) o (by omega) (by omega) ho (hkeep (fun _ => ⟨by omega, fun _ => Or.inl c4⟩))
              · rw [if_neg c4]
                exact ih (x + 1) (T g x) (by omega) (by omega) h6 (htake hL (Or.inr ⟨c2, c3, by omega⟩))
          · rw [if_neg c2]
            exact ih (x + 1) o (by omega) (by omega) ho (hkeep (fun _ => ⟨by omega, fun z => absurd z.symm c2⟩))
      · rw [if_neg hL, if_neg (by decide)]
        exact ih (x + 1) o (by omega) (by omega) ho (hkeep (fun z => absurd z hL))
theorem X8_pointsAt_ok (hN : 40000 ≤ N) (hK : K ≤ 8) (hW : ∀ a q, W a q ≤ 6) {L : Nat → Bool} {g : Nat} {mt mw : Nat → Int32} (hg : g < 4) (ht5 : ∀ g a, g < 4 → a < 8 → mt (g * 8 + a) = nI (T g a)) (hT6 : ∀ g a, T g a ≤ 6) (hw4 : ∀ a q, a < 8 → q < 6 → mw (a * 6 + q) = nI (W a q)) {a : Nat} (ha : a < K) :
    ∃ b, f_X8_pointsAt N (nI K) mt mw (nI g) (nI a) (nI (em L 8)) = some (nI b) ∧ Tgt K (wo W a) L (T g) a b := by
  unfold f_X8_pointsAt
  rw [ix8', rdI_n _ (by omega) (by decide), bd, ht5 g a hg (by omega)]
  exact pt_20 hN hK hW hg ht5 hT6 hw4 ha N 0 (T g a) (Nat.zero_le _) (by omega) (hT6 g a) (Or.inl ⟨rfl, fun y hy => absurd hy (Nat.not_lt_zero y)⟩)
end TRADE2
