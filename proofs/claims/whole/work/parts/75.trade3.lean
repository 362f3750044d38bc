/-! trade: all rounds -/
section TRADE3
variable {N K P : Nat} {S : Nat → Nat} {W T : Nat → Nat → Nat}
def rmB (L G : Nat → Bool) (a : Nat) : Bool := L a && !G a
theorem em_rm {L G : Nat → Bool} (hK : K ≤ 8) (hL : ∀ x, K ≤ x → L x = false) : em L 8 &&& (em G K ^^^ M32) = em (rmB L G) 8 := by
  have l1 := em_lt L 8
  have l2 := em_lt (rmB L G) 8
  refine bt_inj 8 _ _ (and_lt _ l1) l2 (fun i hi => ?_)
  rw [bt_em _ 8 i hi, bt_tb, Nat.testBit_and, Nat.testBit_xor, show M32 = 2 ^ 32 - 1 from rfl, Nat.testBit_two_pow_sub_one]
  have t1 := bt_em L 8 i hi
  rw [bt_tb] at t1
  have t2 : (em G K).testBit i = (decide (i < K) && G i) := by
    have t3 : bt (em G K) i = if (decide (i < K) && G i) = true then 1 else 0 := by
      by_cases h : i < K
      · rw [bt_em G K i h]
        simp [h]
      · rw [bt_ge (em_lt G K) (by omega)]
        simp [h]
    rw [bt_tb] at t3
    cases h1 : (em G K).testBit i <;> cases h2 : (decide (i < K) && G i) <;> rw [h1, h2] at t3 <;> simp at t3 ⊢
  have t4 : (em L 8).testBit i = L i := by
    cases h1 : (em L 8).testBit i <;> cases h2 : L i <;> rw [h1, h2] at t1 <;> simp at t1 ⊢
  rw [t2, t4]
  unfold rmB
  by_cases h : i < K
  · cases L i <;> cases G i <;> simp [h] <;> omega
  · rw [hL i (by omega)]; simp
theorem ft_65 (hN : 40000 ≤ N) (hK : K ≤ 8) (hW : ∀ a q, W a q ≤ 6) {L : Nat → Bool} {g : Nat} {mt mw : Nat → Int32} (hg : g < 4) (ht5 : ∀ g a, g < 4 → a < 8 → mt (g * 8 + a) = nI (T g a)) (hT6 : ∀ g a, T g a ≤ 6) (hw4 : ∀ a q, a < 8 → q < 6 → mw (a * 6 + q) = nI (W a q)) {c_found : (Nat → Int32)} {c_served : (Nat → Int32)} {r : Int32} (k58 : (Nat → Int32) → (Nat → Int32) → (Nat → Int32) → Int32 → Int32 → Int32 → Option ((Nat → Int32) × (Nat → Int32) × (Nat → Int32))) :
    ∀ (n a : Nat) (pt : Nat → Int32) (p : Nat → Nat), a ≤ K → K - a < n → PtIs K W L (T g) p a pt → ∃ pt' p', f_X8_findTrade_65 N (nI K) mt mw k58 n c_found pt c_served (nI g) (nI (em L 8)) r (nI a) = f_X8_findTrade_115 N (nI K) mt mw k58 N c_found pt' c_served (nI g) (nI (em L 8)) r 0 0 ∧ PtIs K W L (T g) p' K pt' := by
  intro n
  induction n with
  | zero => intro a pt p h1 h2; omega
  | succ n ih =>
    intro a pt p ha hn hpt
    rw [f_X8_findTrade_65]
    by_cases hc : K ≤ a
    · have : a = K := by omega
      subst this
      rw [if_pos (nI_le (Nat.le_refl _) (by omega))]
      exact ⟨pt, p, rfl, hpt⟩
    · rw [if_neg (nI_ge (by omega) (by omega)), bitL (by omega)]
      unfold f_X8_findTrade_102
      by_cases hL : L a = true
      · rw [if_pos hL, if_pos (show nI 1 = 1 from rfl)]
        obtain ⟨b, b1, b2⟩ := X8_pointsAt_ok (N := N) (L := L) hN hK hW hg ht5 hT6 hw4 (show a < K by omega)
        rw [b1, bd, wrI_n _ _ (by omega) (by decide), bd, nI_1]
        refine ih (a + 1) _ (upN p a b) (by omega) (by omega) (fun x hx => ?_)
        by_cases e : x = a
        · subst e
          rw [upN_s, pk_us]
          exact ⟨fun _ => ⟨rfl, b2⟩, fun z => by rw [hL] at z; cases z⟩
        · rw [upN_n e, pk_un e]
          exact hpt x (by omega)
      · rw [if_neg hL, if_neg (by decide), wrI_n _ _ (by omega) (by decide), bd, nI_1]
        refine ih (a + 1) _ p (by omega) (by omega) (fun x hx => ?_)
        by_cases e : x = a
        · subst e
          exact ⟨fun z => absurd z hL, fun _ => pk_us⟩
        · rw [pk_un e]
          exact hpt x (by omega)
theorem ft_115 (hN : 40000 ≤ N) (hK : K ≤ 8) {L : Nat → Bool} (hL0 : ∀ x, K ≤ x → L x = false) {g : Nat} {mt mw : Nat → Int32} (hg : g < 4) (ht5 : ∀ g a, g < 4 → a < 8 → mt (g * 8 + a) = nI (T g a)) {p : Nat → Nat} {points : Nat → Int32} (hpt : PtIs K W L (T g) p K points) {r : Nat} {fo sv : Nat → Nat} (k58 : (Nat → Int32) → (Nat → Int32) → (Nat → Int32) → Int32 → Int32 → Int32 → Option ((Nat → Int32) × (Nat → Int32) × (Nat → Int32))) :
    ∀ (n a : Nat) (found served : Nat → Int32), a ≤ K → K - a < n → (∀ x, x < K → found x = nI (if x < a ∧ gnB L p x = true then T g (p x) else fo x)) → (∀ x, x < K → served x = nI (if x < a ∧ gnB L p x = true then r else sv x)) →
      ∃ found' served', f_X8_findTrade_115 N (nI K) mt mw k58 n found points served (nI g) (nI (em L 8)) (nI r) (nI (em (gnB L p) a)) (nI a) = k58 found' points served' (nI g) (nI (em (rmB L (gnB L p)) 8)) (nI (r + 1)) ∧ (∀ x, x < K → found' x = nI (if gnB L p x = true then T g (p x) else fo x)) ∧ ∀ x, x < K → served' x = nI (if gnB L p x = true then r else sv x) := by
  intro n
  induction n with
  | zero => intro a g s h1 h2; omega
  | succ n ih =>
    intro a found served ha hn hgf hs
    rw [f_X8_findTrade_115]
    by_cases hc : K ≤ a
    · have : a = K := by omega
      subst this
      rw [if_pos (nI_le (Nat.le_refl _) (by omega)), nI_all, nI_xor, nI_and, nI_1, show (4294967295 : Nat) = M32 from rfl, em_rm hK hL0]
      refine ⟨found, served, rfl, fun x hx => ?_, fun x hx => ?_⟩
      · rw [hgf x hx]
        by_cases e : gnB L p x = true
        · rw [if_pos ⟨hx, e⟩, if_pos e]
        · rw [if_neg (fun z => e z.2), if_neg e]
      · rw [hs x hx]
        by_cases e : gnB L p x = true
        · rw [if_pos ⟨hx, e⟩, if_pos e]
        · rw [if_neg (fun z => e z.2), if_neg e]
    · have hsuc : em (gnB L p) (a + 1) = em (gnB L p) a + (if gnB L p a = true then 2 ^ a else 0) := rfl
      have hskip : gnB L p a = false → ∃ found' served', f_X8_findTrade_115 N (nI K) mt mw k58 n found points served (nI g) (nI (em L 8)) (nI r) (nI (em (gnB L p) a)) (nI a + 1) = k58 found' points served' (nI g) (nI (em (rmB L (gnB L p)) 8)) (nI (r + 1)) ∧ (∀ x, x < K → found' x = nI (if gnB L p x = true then T g (p x) else fo x)) ∧ ∀ x, x < K → served' x = nI (if gnB L p x = true then r else sv x) := by
        intro hgn
        have hxa : ∀ x, ¬ (x < a ∧ gnB L p x = true) → ¬ (x < a + 1 ∧ gnB L p x = true) := by
          rintro x h1 ⟨h2, h3⟩
          rcases Nat.lt_or_ge x a with y | y
          · exact h1 ⟨y, h3⟩
          · rw [show x = a by omega, hgn] at h3; cases h3
        have := ih (a + 1) found served (by omega) (by omega) (fun x hx => by
          rw [hgf x hx]
          by_cases e : x < a ∧ gnB L p x = true
          · rw [if_pos e, if_pos ⟨by omega, e.2⟩]
          · rw [if_neg e, if_neg (hxa x e)]) (fun x hx => by
          rw [hs x hx]
          by_cases e : x < a ∧ gnB L p x = true
          · rw [if_pos e, if_pos ⟨by omega, e.2⟩]
          · rw [if_neg e, if_neg (hxa x e)])
        rw [hsuc, hgn, if_neg (by decide), Nat.add_zero] at this
        rw [nI_1]
        exact this
      rw [if_neg (nI_ge (by omega) (by omega)), bitL (by omega)]
      by_cases hL : L a = true
      · obtain ⟨p1, p2⟩ := (hpt a (by omega)).1 hL
        obtain ⟨n1, n2⟩ := hpt.next a (by omega) hL
        rw [if_pos hL, if_pos (show nI 1 = 1 from rfl), X8_ring_ok hN hK hpt (by omega) hL, bd]
        by_cases hr : rgB p a = true
        · have hgn : gnB L p a = true := by unfold gnB; rw [hL, hr]; rfl
          rw [if_pos hr, if_neg one_ne, rdI_n _ (by omega) (by decide), bd, p1, ix8', rdI_n _ (by omega) (by decide), bd, ht5 g (p a) hg (by omega), wrI_n _ _ (by omega) (by decide), bd, wrI_n _ _ (by omega) (by decide), bd, one_sh (by omega), nI_or, em_or]
          have := ih (a + 1) (upd found a (nI (T g (p a)))) (upd served a (nI r)) (by omega) (by omega) (fun x hx => by
            by_cases e : x = a
            · rw [e, pk_us, if_pos ⟨by omega, hgn⟩]
            · rw [pk_un e, hgf x hx]
              by_cases e2 : x < a ∧ gnB L p x = true
              · rw [if_pos e2, if_pos ⟨by omega, e2.2⟩]
              · rw [if_neg e2, if_neg (fun z => e2 ⟨by omega, z.2⟩)]) (fun x hx => by
            by_cases e : x = a
            · rw [e, pk_us, if_pos ⟨by omega, hgn⟩]
            · rw [pk_un e, hs x hx]
              by_cases e2 : x < a ∧ gnB L p x = true
              · rw [if_pos e2, if_pos ⟨by omega, e2.2⟩]
              · rw [if_neg e2, if_neg (fun z => e2 ⟨by omega, z.2⟩)])
          rw [hsuc, hgn, if_pos rfl] at this
          rw [nI_1]
          exact this
        · rw [if_neg hr, if_pos rfl]
          exact hskip (by unfold gnB; rw [hL]; simpa using hr)
      · have hLf : L a = false := by simpa using hL
        rw [if_neg hL, if_neg (by decide)]
        exact hskip (by unfold gnB; rw [hLf]; rfl)
/-- what has been given by trade may be told, with what is left -/
def TrOk (K P : Nat) (S : Nat → Nat) (W : Nat → Nat → Nat) (t : Nat → Nat) (L : Nat → Bool) (fo : Nat → Nat) : Prop :=
  (∀ x, x < K → L x = true → fo x = 0) ∧ (∀ x, x < K → fo x ≤ P) ∧ (∀ x q, x < K → fo x = q + 1 → 0 < W x q) ∧ ∀ q, q < P → fb_ct (fun x => decide (fo x = q + 1)) K + fb_ct (fun x => L x && decide (t x = q + 1)) K ≤ S q
theorem TrOk_step (hG : GD K P S W T) {g : Nat} {L : Nat → Bool} {fo p : Nat → Nat} {points : Nat → Int32} (hLt : ∀ x, x < K → L x = true → T g x ≠ 0) (hpt : PtIs K W L (T g) p K points) (h : TrOk K P S W (T g) L fo) : TrOk K P S W (T g) (rmB L (gnB L p)) (fun x => if gnB L p x = true then T g (p x) else fo x) := by
  obtain ⟨h1, h2, h3, h4⟩ := h
  have hGL : ∀ x, gnB L p x = true → L x = true ∧ rgB p x = true := fun x hx => by
    unfold gnB at hx
    simpa using hx
  refine ⟨fun x hx hL => ?_, fun x hx => ?_, fun x q hx hq => ?_, fun q hq => ?_⟩
  · unfold rmB at hL
    simp only [Bool.and_eq_true, Bool.not_eq_true'] at hL
    show (if gnB L p x = true then T g (p x) else fo x) = 0
    rw [if_neg (by rw [hL.2]; decide)]
    exact h1 x hx hL.1
  · show (if gnB L p x = true then T g (p x) else fo x) ≤ P
    split
    · exact hG.TP g _
    · exact h2 x hx
  · have hq : (if gnB L p x = true then T g (p x) else fo x) = q + 1 := hq
    split at hq
    · rename_i hg
      obtain ⟨hL, _⟩ := hGL x hg
      have := (Tgt_in hx hL ((hpt x hx).1 hL).2).2.2
      rcases Nat.eq_zero_or_pos (W x q) with z | z
      · exfalso
        have e1 : wo W x (T g (p x)) = 8 := by rw [hq]; unfold wo; simp only; rw [if_pos z]
        obtain ⟨o, ho⟩ : ∃ o, T g x = o + 1 := ⟨T g x - 1, by have := hLt x hx hL; omega⟩
        have e2 := hG.TW g x o ho
        have e3 := hG.W6 x o
        have e4' : wo W x (T g x) = W x o := by rw [ho]; unfold wo; simp only; rw [if_neg (by omega)]
        omega
      · exact z
    · exact h3 x q hx hq
  · have hle := h4 q hq
    have a1 : fb_ct (fun x => decide ((if gnB L p x = true then T g (p x) else fo x) = q + 1)) K ≤ fb_ct (fun x => decide (fo x = q + 1) || (gnB L p x && decide (T g (p x) = q + 1))) K := by
      refine fb_ct_sub (fun x hx hd => ?_)
      have hd : (if gnB L p x = true then T g (p x) else fo x) = q + 1 := by simpa using hd
      by_cases e : gnB L p x = true
      · rw [if_pos e] at hd
        simp [e, hd]
      · rw [if_neg e] at hd
        simp [hd]
    have a2 := fb_ct_or (p := fun x => decide (fo x = q + 1)) (q := fun x => gnB L p x && decide (T g (p x) = q + 1)) (n := K) (fun x hx hh => by
      obtain ⟨b1, b2⟩ := hh
      simp only [decide_eq_true_eq, Bool.and_eq_true] at b1 b2
      have := h1 x hx (hGL x b2.1).1
      omega)
    have a3 : fb_ct (fun x => gnB L p x && decide (T g (p x) = q + 1)) K ≤ fb_ct (fun x => gnB L p x && decide (T g x = q + 1)) K := by
      refine ct_inj (f := p) (fun x hx hh => ?_) (fun x y hx hy hxx hyy e => ?_)
      · simp only [decide_eq_true_eq, Bool.and_eq_true] at hh
        obtain ⟨hL, hr⟩ := hGL x hh.1
        obtain ⟨n1, n2⟩ := hpt.next x hx hL
        refine ⟨n1, ?_⟩
        simp only [decide_eq_true_eq, Bool.and_eq_true]
        exact ⟨by unfold gnB; rw [n2, rg_next hr]; rfl, hh.2⟩
      · simp only [decide_eq_true_eq, Bool.and_eq_true] at hxx hyy
        exact rg_inj (hGL x hxx.1).2 (hGL y hyy.1).2 e
    have a4 := fb_ct_or (p := fun x => rmB L (gnB L p) x && decide (T g x = q + 1)) (q := fun x => gnB L p x && decide (T g x = q + 1)) (n := K) (fun x hx hh => by
      obtain ⟨b1, b2⟩ := hh
      unfold rmB at b1
      simp only [decide_eq_true_eq, Bool.and_eq_true, Bool.not_eq_true'] at b1 b2
      rw [b2.1] at b1
      exact absurd b1.1.2 (by decide))
    have a5 : fb_ct (fun x => (rmB L (gnB L p) x && decide (T g x = q + 1)) || (gnB L p x && decide (T g x = q + 1))) K = fb_ct (fun x => L x && decide (T g x = q + 1)) K := by
      refine fb_ct_cong (fun x hx => ?_)
      unfold rmB
      cases hg : gnB L p x with
      | true => rw [(hGL x hg).1]; simp
      | false => simp
    rw [a2] at a1
    rw [a5] at a4
    show fb_ct (fun x => decide ((if gnB L p x = true then T g (p x) else fo x) = q + 1)) K + _ ≤ _
    omega
theorem trade_rounds (hN : 40000 ≤ N) (hG : GD K P S W T) {g : Nat} (hg : g < 4) {ct cw mt mw holds : Nat → Int32} (ht5 : ∀ g a, g < 4 → a < 8 → mt (g * 8 + a) = nI (T g a)) (hw4 : ∀ a q, a < 8 → q < 6 → cw (a * 6 + q) = nI (W a q)) (hm4 : ∀ a q, a < 8 → q < 6 → mw (a * 6 + q) = nI (W a q)) (hh : ∀ a, a < K → holds a = oI (T g a)) :
    ∀ (c n1 n2 r : Nat) (L : Nat → Bool) (fo sv : Nat → Nat) (gets ho pts served found points servedM : Nat → Int32), fb_ct L K ≤ c → 1 ≤ r → r + fb_ct L K ≤ 9 → c < n1 → c < n2 → (∀ x, K ≤ x → L x = false) → (∀ x, x < K → sv x ≤ 8 ∧ (L x = true ↔ T g x ≠ 0 ∧ sv x = 0)) →
      (∀ x, x < K → gets x = oI (fo x)) → (∀ x, x < K → served x = nI (sv x)) → (∀ x, x < K → found x = nI (fo x)) → (∀ x, x < K → servedM x = nI (sv x)) → TrOk K P S W (T g) L fo →
      ∃ (fo' sv' : Nat → Nat) (gets' ho' pts' served' found' points' servedM' : Nat → Int32), f_X6_run_60 N (nI K) (nI P) ct cw n1 gets ho holds pts served (nI (fb_ct L K)) (nI r) = some (gets', ho', holds, pts', served') ∧
        f_X8_findTrade_58 N (nI K) mt mw n2 found points servedM (nI g) (nI (em L 8)) (nI r) = some (found', points', servedM') ∧
        (∀ x, x < K → gets' x = oI (fo' x)) ∧ (∀ x, x < K → served' x = nI (sv' x)) ∧ (∀ x, x < K → found' x = nI (fo' x)) ∧ (∀ x, x < K → servedM' x = nI (sv' x)) ∧ TrOk K P S W (T g) (fun _ => false) fo' := by
  have hK := hG.K8
  have hP := hG.P6
  intro c
  induction c with
  | zero =>
    intro n1 n2 r L fo sv gets ho pts served found points servedM hc hr hrc hn1 hn2 hL0 hsv h1 h2 h3 h4 hT
    obtain ⟨n1, rfl⟩ : ∃ n', n1 = n' + 1 := ⟨n1 - 1, by omega⟩
    obtain ⟨n2, rfl⟩ : ∃ n', n2 = n' + 1 := ⟨n2 - 1, by omega⟩
    have hz : fb_ct L K = 0 := by omega
    have hLf : ∀ x, L x = false := fun x => by
      rcases Nat.lt_or_ge x K with z | z
      · exact fb_ct_zero.mp hz x z
      · exact hL0 x z
    have hL : L = fun _ => false := funext hLf
    have he : em L 8 = 0 := by rw [hL]; decide
    rw [f_X6_run_60, f_X8_findTrade_58, hz, he, if_pos (show nI 0 = 0 from rfl)]
    rw [hL] at hT
    refine ⟨fo, sv, gets, ho, pts, served, found, points, servedM, ?_, rfl, h1, h2, h3, h4, hT⟩
    by_cases h8 : (8 : Int32) < nI r
    · rw [if_pos h8]
    · rw [if_neg h8, if_pos (by decide)]
  | succ c ih =>
    intro n1 n2 r L fo sv gets ho pts served found points servedM hc hr hrc hn1 hn2 hL0 hsv h1 h2 h3 h4 hT
    rcases Nat.eq_zero_or_pos (fb_ct L K) with hz | hpos
    · obtain ⟨n1, rfl⟩ : ∃ n', n1 = n' + 1 := ⟨n1 - 1, by omega⟩
      obtain ⟨n2, rfl⟩ : ∃ n', n2 = n' + 1 := ⟨n2 - 1, by omega⟩
      have hLf : ∀ x, L x = false := fun x => by
        rcases Nat.lt_or_ge x K with z | z
        · exact fb_ct_zero.mp hz x z
        · exact hL0 x z
      have hL : L = fun _ => false := funext hLf
      have he : em L 8 = 0 := by rw [hL]; decide
      rw [f_X6_run_60, f_X8_findTrade_58, hz, he, if_pos (show nI 0 = 0 from rfl)]
      rw [hL] at hT
      refine ⟨fo, sv, gets, ho, pts, served, found, points, servedM, ?_, rfl, h1, h2, h3, h4, hT⟩
      by_cases h8 : (8 : Int32) < nI r
      · rw [if_pos h8]
      · rw [if_neg h8, if_pos (by decide)]
    · obtain ⟨n1, rfl⟩ : ∃ n', n1 = n' + 1 := ⟨n1 - 1, by omega⟩
      obtain ⟨n2, rfl⟩ : ∃ n', n2 = n' + 1 := ⟨n2 - 1, by omega⟩
      have hct8 := fb_ct_le L K
      obtain ⟨x0, hx0, hLx0⟩ := fb_ct_pos.mp hpos
      have hLf : LfIs K L (T g) holds served := fun a ha => ⟨hh a ha, hG.T6 g a, sv a, (hsv a ha).1, h2 a ha, (hsv a ha).2⟩
      obtain ⟨ho', o1, o2⟩ := X6_findHolders_ok (N := N) hN hK hLf ho
      obtain ⟨pts', p, q1, q2⟩ := pa_2 (N := N) hN hP hK hG.W6 hw4 hLf o2 (fun x _ => hG.TP g x) N 0 pts (fun _ => 0) (Nat.zero_le _) (by omega) (fun a ha => absurd ha (Nat.not_lt_zero a))
      obtain ⟨gets', served', s1, s2, s3⟩ := sv_4 (N := N) (holds := holds) (r := r) (fo := fo) (sv := sv) hN hK q2 hh N 0 gets served (Nat.zero_le _) (by omega) (fun x hx => by rw [if_neg (by omega)]; exact h1 x hx) (fun x hx => by rw [if_neg (by omega)]; exact h2 x hx)
      have hLt : ∀ x, x < K → L x = true → T g x ≠ 0 := fun x hx hL => ((hsv x hx).2.mp hL).1
      obtain ⟨pt2, p2, u1, u2⟩ := ft_65 (N := N) (K := K) (W := W) (L := L) (r := nI r) (c_found := found) (c_served := servedM) (mw := mw) hN hK hG.W6 hg ht5 hG.T6 hm4 (f_X8_findTrade_58 N (nI K) mt mw n2) N 0 points (fun _ => 0) (Nat.zero_le _) (by omega) (fun a ha => absurd ha (Nat.not_lt_zero a))
      have u3 : PtIs K W L (T g) p K pt2 := fun a ha => ⟨fun hL => by
        have e := Tgt_one ((u2 a ha).1 hL).2 ((q2 a ha).1 hL).2
        have := (u2 a ha).1 hL
        rw [e] at this
        exact this, (u2 a ha).2⟩
      obtain ⟨found', servedM', w1, w2, w3⟩ := ft_115 (N := N) (mw := mw) (r := r) (fo := fo) (sv := sv) hN hK hL0 hg ht5 u3 (f_X8_findTrade_58 N (nI K) mt mw n2) N 0 found servedM (Nat.zero_le _) (by omega) (fun x hx => by rw [if_neg (by omega)]; exact h3 x hx) (fun x hx => by rw [if_neg (by omega)]; exact h4 x hx)
      have hgl : ∀ x, gnB L p x = true → L x = true := fun x hx => by
        unfold gnB at hx
        simp only [Bool.and_eq_true] at hx
        exact hx.1
      have hsplit : fb_ct (rmB L (gnB L p)) K + fb_ct (gnB L p) K = fb_ct L K := by
        rw [← fb_ct_or (fun x hx hh => by
          obtain ⟨b1, b2⟩ := hh
          unfold rmB at b1
          rw [b2] at b1
          simp at b1)]
        refine fb_ct_cong (fun x hx => ?_)
        unfold rmB
        cases hgx : gnB L p x with
        | true => rw [hgl x hgx]; rfl
        | false => simp
      have hgpos : 0 < fb_ct (gnB L p) K := by
        obtain ⟨x, x1, x2, x3⟩ := rg_some hK q2.next hx0 hLx0
        exact fb_ct_pos.mpr ⟨x, x1, by unfold gnB; rw [x2, x3]; rfl⟩
      have hpt0 := hpos
      obtain ⟨fo', sv', ge', hoo', pt', se', fd', po', sm', z1, z2, z3, z4, z5, z6, z7⟩ := ih n1 n2 (r + 1) (rmB L (gnB L p)) (fun x => if gnB L p x = true then T g (p x) else fo x) (fun x => if gnB L p x = true then r else sv x) gets' ho' pts' served' found' pt2 servedM' (by omega) (by omega) (by omega) (by omega) (by omega)
        (fun x hx => by unfold rmB; rw [hL0 x hx]; rfl)
        (fun x hx => by
          obtain ⟨v1, v2⟩ := hsv x hx
          by_cases e : gnB L p x = true
          · have hrm : rmB L (gnB L p) x = false := by unfold rmB; rw [e]; simp
            simp only [e, if_true, hrm]
            exact ⟨by omega, ⟨fun z => absurd z (by decide), fun z => by omega⟩⟩
          · have ef : gnB L p x = false := by simpa using e
            have hrm : rmB L (gnB L p) x = L x := by unfold rmB; rw [ef]; simp
            simp only [ef, hrm]
            exact ⟨v1, v2⟩)
        s2 s3 w2 w3 (TrOk_step hG hLt q2 hT)
      refine ⟨fo', sv', ge', hoo', pt', se', fd', po', sm', ?_, ?_, z3, z4, z5, z6, z7⟩
      · rw [f_X6_run_60, if_neg (show ¬ (8 : Int32) < nI r from nI_nlt (b := r) (a := 8) (by omega) (by decide)), if_neg (nI_nle hpos (by omega)), o1, bd]
        have q1' : f_X6_pointAll N (nI K) (nI P) ho' holds served cw pts = some pts' := q1
        have s1' : f_X6_serve N (nI K) holds pts' gets served (nI r) = some (nI (fb_ct (gnB L p) K), gets', served') := s1
        rw [q1', bd, s1', bd]
        simp only
        rw [pk_sub (by omega), nI_1, show fb_ct L K - fb_ct (gnB L p) K = fb_ct (rmB L (gnB L p)) K by omega]
        exact z1
      · have hem : ¬ em L 8 = 0 := by
          intro e
          have := bt_em L 8 x0 (by omega)
          rw [e, hLx0] at this
          unfold bt at this
          simp at this
        have hel := em_lt L 8
        rw [f_X8_findTrade_58, if_neg (nI_ne0 (by omega) (by omega)), show (0 : Int32) = nI 0 from rfl, u1]
        have w1' : f_X8_findTrade_115 N (nI K) mt mw (f_X8_findTrade_58 N (nI K) mt mw n2) N found pt2 servedM (nI g) (nI (em L 8)) (nI r) 0 0 = _ := w1
        rw [w1']
        exact z2
end TRADE3
