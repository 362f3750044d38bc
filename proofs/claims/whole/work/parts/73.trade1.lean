/-! trade: rings of those who point, and whom each points at -/
def itr (p : Nat → Nat) : Nat → Nat → Nat
  | 0, b => b
  | n + 1, b => itr p n (p b)
theorem itr_succ (p : Nat → Nat) : ∀ n b, itr p (n + 1) b = p (itr p n b)
  | 0, _ => rfl
  | n + 1, b => by rw [itr, itr_succ p n (p b)]; rfl
theorem itr_add (p : Nat → Nat) (m : Nat) : ∀ n b, itr p (m + n) b = itr p m (itr p n b)
  | 0, _ => rfl
  | n + 1, b => by rw [show m + (n + 1) = m + n + 1 by omega, itr, itr_add p m n (p b)]; rfl
/-- the walk comes to a in at most n steps -/
def rwk (p : Nat → Nat) (a : Nat) : Nat → Nat → Bool
  | 0, b => decide (b = a)
  | n + 1, b => decide (b = a) || rwk p a n (p b)
theorem rwk_iff (p : Nat → Nat) (a : Nat) : ∀ n b, rwk p a n b = true ↔ ∃ j, j ≤ n ∧ itr p j b = a
  | 0, b => by
    rw [rwk, decide_eq_true_eq]
    constructor
    · intro h; exact ⟨0, Nat.le_refl _, h⟩
    · rintro ⟨j, hj, h⟩
      rw [show j = 0 by omega] at h; exact h
  | n + 1, b => by
    rw [rwk, Bool.or_eq_true, decide_eq_true_eq, rwk_iff p a n (p b)]
    constructor
    · rintro (h | ⟨j, hj, h⟩)
      · exact ⟨0, Nat.zero_le _, h⟩
      · exact ⟨j + 1, by omega, h⟩
    · rintro ⟨j, hj, h⟩
      cases j with
      | zero => exact Or.inl h
      | succ j => exact Or.inr ⟨j, by omega, h⟩
/-- on a ring -/
def rgB (p : Nat → Nat) (a : Nat) : Bool := rwk p a 8 (p a)
theorem rgB_iff (p : Nat → Nat) (a : Nat) : rgB p a = true ↔ ∃ k, k ≤ 8 ∧ itr p (k + 1) a = a := by
  unfold rgB
  rw [rwk_iff]
  rfl
theorem rg_next {p : Nat → Nat} {a : Nat} (h : rgB p a = true) : rgB p (p a) = true := by
  obtain ⟨k, hk, e⟩ := (rgB_iff p a).mp h
  refine (rgB_iff p (p a)).mpr ⟨k, hk, ?_⟩
  have e2 : itr p k (p a) = a := e
  rw [itr_succ, e2]
theorem itr_mul {p : Nat → Nat} {k a : Nat} (h : itr p k a = a) : ∀ n, itr p (k * n) a = a
  | 0 => rfl
  | n + 1 => by rw [Nat.mul_succ, itr_add, h, itr_mul h n]
theorem rg_inj {p : Nat → Nat} {a b : Nat} (ha : rgB p a = true) (hb : rgB p b = true) (h : p a = p b) : a = b := by
  obtain ⟨k, hk, ea⟩ := (rgB_iff p a).mp ha
  obtain ⟨l, hl, eb⟩ := (rgB_iff p b).mp hb
  have e1 := itr_mul ea (l + 1)
  have e2 := itr_mul eb (k + 1)
  have e3 : ∀ n, itr p (n + 1) a = itr p (n + 1) b := fun n => by show itr p n (p a) = itr p n (p b); rw [h]
  obtain ⟨n, hn⟩ : ∃ n, (k + 1) * (l + 1) = n + 1 := ⟨(k + 1) * (l + 1) - 1, by have : 0 < (k + 1) * (l + 1) := Nat.mul_pos (Nat.succ_pos _) (Nat.succ_pos _); omega⟩
  rw [hn] at e1
  rw [Nat.mul_comm, hn] at e2
  rw [← e1, e3, e2]
theorem rg_some {p : Nat → Nat} {L : Nat → Bool} {K a : Nat} (hK : K ≤ 8) (hp : ∀ x, x < K → L x = true → p x < K ∧ L (p x) = true) (ha : a < K) (hL : L a = true) : ∃ x, x < K ∧ L x = true ∧ rgB p x = true := by
  have hin : ∀ i, itr p i a < K ∧ L (itr p i a) = true := by
    intro i
    induction i with
    | zero => exact ⟨ha, hL⟩
    | succ i ih => rw [itr_succ]; exact hp _ ih.1 ih.2
  obtain ⟨i, j, hij, hj, e⟩ := fb_twice (m := K) (n := 9) (f := fun i => itr p i a) (fun i _ => (hin i).1) (by omega)
  refine ⟨itr p i a, (hin i).1, (hin i).2, (rgB_iff p _).mpr ⟨j - i - 1, by omega, ?_⟩⟩
  rw [← itr_add, show j - i - 1 + 1 + i = j by omega]
  exact e.symm
theorem ct_inj {A B : Nat → Bool} {f : Nat → Nat} {n : Nat} (h : ∀ i, i < n → A i = true → f i < n ∧ B (f i) = true) (hi : ∀ i j, i < n → j < n → A i = true → A j = true → f i = f j → i = j) : fb_ct A n ≤ fb_ct B n := by
  obtain ⟨e, he⟩ := pick (n := fb_ct A n) (R := fun k i => i < n ∧ A i = true ∧ fb_ct A i = k) 0 (fun k hk => fb_ct_kth hk)
  refine fb_holes _ _ (fun k => fb_ct B (f (e k))) (fun k hk => ?_) (fun k l hkl hl hh => ?_)
  · obtain ⟨h1, h2, h3⟩ := he k hk
    obtain ⟨g1, g2⟩ := h _ h1 h2
    have h4 := fb_ct_mono B (show f (e k) + 1 ≤ n by omega)
    rw [fb_ct_succ, g2, if_pos rfl] at h4
    omega
  · obtain ⟨h1, h2, h3⟩ := he k (by omega)
    obtain ⟨g1, g2, g3⟩ := he l hl
    have e1 := fb_ct_kth_one (h _ h1 h2).2 (h _ g1 g2).2 hh
    have := hi _ _ h1 g1 h2 g2 e1
    rw [this] at h3
    omega
/-- whom an owner points at -/
def Tgt (K : Nat) (w : Nat → Nat) (L : Nat → Bool) (t : Nat → Nat) (a b : Nat) : Prop :=
  ((∀ x, x < K → L x = true → w (t a) ≤ w (t x)) ∧ b = a) ∨
    (b < K ∧ L b = true ∧ w (t b) < w (t a) ∧ (∀ x, x < K → L x = true → w (t b) < w (t x) ∨ (w (t b) = w (t x) ∧ t b ≤ t x)) ∧ ∀ x, x < b → L x = true → t x ≠ t b)
theorem Tgt_one {K : Nat} {w : Nat → Nat} {L : Nat → Bool} {t : Nat → Nat} {a b b' : Nat} (h : Tgt K w L t a b) (h' : Tgt K w L t a b') : b = b' := by
  rcases h with ⟨h1, h2⟩ | ⟨h1, h2, h3, h4, h5⟩
  · rcases h' with ⟨g1, g2⟩ | ⟨g1, g2, g3, g4, g5⟩
    · rw [h2, g2]
    · have := h1 b' g1 g2; omega
  · rcases h' with ⟨g1, g2⟩ | ⟨g1, g2, g3, g4, g5⟩
    · have := g1 b h1 h2; omega
    · have e : t b = t b' := by
        have a1 := h4 b' g1 g2
        have a2 := g4 b h1 h2
        omega
      rcases Nat.lt_trichotomy b b' with z | z | z
      · exact absurd e (g5 b z h2)
      · exact z
      · exact absurd e.symm (h5 b' z g2)
theorem Tgt_in {K : Nat} {w : Nat → Nat} {L : Nat → Bool} {t : Nat → Nat} {a b : Nat} (ha : a < K) (hL : L a = true) (h : Tgt K w L t a b) : b < K ∧ L b = true ∧ w (t b) ≤ w (t a) := by
  rcases h with ⟨h1, h2⟩ | ⟨h1, h2, h3, h4, h5⟩
  · rw [h2]; exact ⟨ha, hL, Nat.le_refl _⟩
  · exact ⟨h1, h2, by omega⟩
section TRADE1
variable {N K P : Nat} {S : Nat → Nat} {W T : Nat → Nat → Nat}
/-! the class -/
/-- least left holder of a place, from asker m on: 0 none, b + 1 -/
def HoIs (K : Nat) (L : Nat → Bool) (t : Nat → Nat) (m q : Nat) (x : Int32) : Prop := (x = -1 ∧ ∀ b, m ≤ b → b < K → L b = true → t b ≠ q + 1) ∨ ∃ b, m ≤ b ∧ b < K ∧ L b = true ∧ t b = q + 1 ∧ x = nI b ∧ ∀ y, m ≤ y → y < b → L y = true → t y ≠ q + 1
/-- the class's cells say who is left -/
def LfIs (K : Nat) (L : Nat → Bool) (t : Nat → Nat) (holds served : Nat → Int32) : Prop := ∀ a, a < K → holds a = oI (t a) ∧ t a ≤ 6 ∧ ∃ s, s ≤ 8 ∧ served a = nI s ∧ (L a = true ↔ t a ≠ 0 ∧ s = 0)
theorem X6_isLeft_ok {L : Nat → Bool} {t : Nat → Nat} {holds served : Nat → Int32} (hK : K ≤ 8) (h : LfIs K L t holds served) {a : Nat} (ha : a < K) : f_X6_isLeft N holds served (nI a) = some (if L a then 1 else 0) := by
  obtain ⟨h1, h2, s, h3, h4, h5⟩ := h a ha
  unfold f_X6_isLeft
  rw [rdI_n _ (by omega) (by decide), bd, h1]
  simp (disch := omega) only [q_on1]
  by_cases h0 : t a = 0
  · rw [if_pos h0, if_neg (fun z => (h5.mp z).1 h0)]
  · rw [if_neg h0, rdI_n _ (by omega) (by decide), bd, h4]
    simp (disch := omega) only [q_eq0]
    by_cases hs : s = 0
    · rw [if_pos hs, if_pos (h5.mpr ⟨h0, hs⟩)]
    · rw [if_neg hs, if_neg (fun z => hs (h5.mp z).2)]
theorem fh_31 {L : Nat → Bool} {t : Nat → Nat} {holds served : Nat → Int32} (hK : K ≤ 8) (h : LfIs K L t holds served) :
    ∀ (n m : Nat) (ho : Nat → Int32), m ≤ K → m < n → (∀ q, q < 6 → HoIs K L t m q (ho q)) → ∃ ho', f_X6_findHolders_31 N (nI K) holds served n ho (nI m - 1) = some ho' ∧ ∀ q, q < 6 → HoIs K L t 0 q (ho' q) := by
  intro n
  induction n with
  | zero => intro m ho h1 h2; omega
  | succ n ih =>
    intro m ho hm hn hho
    rw [f_X6_findHolders_31]
    cases m with
    | zero =>
      rw [if_pos (show nI 0 - 1 < 0 from by decide)]
      exact ⟨ho, rfl, hho⟩
    | succ m =>
      have em : nI m + (-1) = nI m - 1 := by
        cases m with
        | zero => decide
        | succ i => rw [pk_m1, nI_pred]
      obtain ⟨h1, h2, s, h3, h4, h5⟩ := h m (by omega)
      rw [nI_pred, if_neg (nI_pos (by omega)), rdI_n _ (by omega) (by decide), bd, X6_isLeft_ok hK h (by omega), bd, h1, em]
      have hskip : (∀ q, q < 6 → L m = true → t m ≠ q + 1) → ∀ q, q < 6 → HoIs K L t m q (ho q) := by
        intro hx q hq
        rcases hho q hq with ⟨a1, a2⟩ | ⟨b, b1, b2, b3, b4, b5, b6⟩
        · refine Or.inl ⟨a1, fun b hb hbK hL => ?_⟩
          rcases Nat.eq_or_lt_of_le hb with z | z
          · subst z; exact hx q hq hL
          · exact a2 b z hbK hL
        · refine Or.inr ⟨b, by omega, b2, b3, b4, b5, fun y y1 y2 y3 => ?_⟩
          rcases Nat.eq_or_lt_of_le y1 with z | z
          · subst z; exact hx q hq y3
          · exact b6 y z y2 y3
      by_cases hL : L m = true
      · rw [if_pos hL, if_neg one_ne]
        obtain ⟨p, hp⟩ : ∃ p, t m = p + 1 := ⟨t m - 1, by have := (h5.mp hL).1; omega⟩
        rw [hp, oI_s]
        simp (disch := omega) only [q_lt0, if_false, q_6le]
        rw [if_neg (by omega), wrI_n _ _ (by omega) (by decide), bd]
        refine ih m _ (by omega) (by omega) (fun q hq => ?_)
        by_cases e : q = p
        · rw [e, pk_us]
          exact Or.inr ⟨m, Nat.le_refl _, by omega, hL, hp, rfl, fun y y1 y2 _ => by omega⟩
        · rw [pk_un e]
          rcases hho q hq with ⟨a1, a2⟩ | ⟨b, b1, b2, b3, b4, b5, b6⟩
          · refine Or.inl ⟨a1, fun b hb hbK hLb => ?_⟩
            rcases Nat.eq_or_lt_of_le hb with z | z
            · subst z; omega
            · exact a2 b z hbK hLb
          · refine Or.inr ⟨b, by omega, b2, b3, b4, b5, fun y y1 y2 y3 => ?_⟩
            rcases Nat.eq_or_lt_of_le y1 with z | z
            · subst z; omega
            · exact b6 y z y2 y3
      · rw [if_neg hL, if_pos rfl]
        exact ih m ho (by omega) (by omega) (hskip (fun q _ z => absurd z hL))
theorem fh_2 {L : Nat → Bool} {t : Nat → Nat} {holds served : Nat → Int32} (hN : 40000 ≤ N) (hK : K ≤ 8) (h : LfIs K L t holds served) :
    ∀ (n i : Nat) (ho : Nat → Int32), i ≤ 6 → 6 - i < n → (∀ q, q < i → ho q = -1) → ∃ ho', f_X6_findHolders_2 N (nI K) holds served n ho (nI i) = some ho' ∧ ∀ q, q < 6 → HoIs K L t 0 q (ho' q) := by
  intro n
  induction n with
  | zero => intro m ho h1 h2; omega
  | succ n ih =>
    intro i ho hi hn hho
    rw [f_X6_findHolders_2]
    by_cases hc : 6 ≤ i
    · simp (disch := omega) only [bd, rdI_n, wrI_n, rdL_n, wrL_n, ix6, ix6', ix7, ix7', ix8, ix8', nI_1, q_6le, if_pos hc]
      exact fh_31 hK h N K ho (Nat.le_refl _) (by omega) (fun q hq => Or.inl ⟨hho q (by omega), fun b h1 h2 => by omega⟩)
    · simp (disch := omega) only [bd, rdI_n, wrI_n, rdL_n, wrL_n, ix6, ix6', ix7, ix7', ix8, ix8', nI_1, q_6le, if_neg hc]
      refine ih (i + 1) _ (by omega) (by omega) (fun q hq => ?_)
      by_cases e : q = i
      · rw [e]; exact pk_us
      · rw [pk_un e]; exact hho q (by omega)
theorem X6_findHolders_ok {L : Nat → Bool} {t : Nat → Nat} {holds served : Nat → Int32} (hN : 40000 ≤ N) (hK : K ≤ 8) (h : LfIs K L t holds served) (ho : Nat → Int32) : ∃ ho', f_X6_findHolders N (nI K) holds served ho = some ho' ∧ ∀ q, q < 6 → HoIs K L t 0 q (ho' q) :=
  fh_2 hN hK h N 0 ho (Nat.zero_le _) (by omega) (fun q hq => absurd hq (Nat.not_lt_zero q))
/-- so far, over places below q, the target -/
def TgB (K : Nat) (w : Nat → Nat) (L : Nat → Bool) (t : Nat → Nat) (a q b : Nat) : Prop :=
  ((∀ x, x < K → L x = true → t x ≤ q → w (t a) ≤ w (t x)) ∧ b = a) ∨
    (b < K ∧ L b = true ∧ t b ≤ q ∧ w (t b) < w (t a) ∧ (∀ x, x < K → L x = true → t x ≤ q → w (t b) < w (t x) ∨ (w (t b) = w (t x) ∧ t b ≤ t x)) ∧ ∀ x, x < b → L x = true → t x ≠ t b)
theorem tg_20 (hP : P ≤ 6) (hK : K ≤ 8) (hW : ∀ a q, W a q ≤ 6) {cw : Nat → Int32} (hw4 : ∀ a q, a < 8 → q < 6 → cw (a * 6 + q) = nI (W a q)) {L : Nat → Bool} {t : Nat → Nat} {holds ho : Nat → Int32} (hho : ∀ q, q < 6 → HoIs K L t 0 q (ho q)) {a : Nat} (ha : a < K) (ht0 : ∀ x, x < K → L x = true → t x ≠ 0) :
    ∀ (n q b : Nat), q ≤ P → P - q < n → b < 8 → TgB K (wo W a) L t a q b → ∃ b', f_X6_targetOf_20 N (nI P) ho holds cw n (nI a) (nI b) (nI (wo W a (t b))) (nI q) = some (nI b') ∧ TgB K (wo W a) L t a P b' := by
  intro n
  induction n with
  | zero => intro q b h1 h2; omega
  | succ n ih =>
    intro q b hq hn hb hT
    rw [f_X6_targetOf_20]
    by_cases hc : P ≤ q
    · have : q = P := by omega
      subst this
      rw [if_pos (nI_le (Nat.le_refl _) (by omega))]
      exact ⟨b, rfl, hT⟩
    · have h8 := wo_le W hW a (q + 1)
      have h8b := wo_le W hW a (t b)
      rw [if_neg (nI_ge (by omega) (by omega)), rdI_n _ (by omega) (by decide), bd]
      have hskip : (∀ x, x < K → L x = true → t x = q + 1 → wo W a (t b) ≤ wo W a (q + 1)) → TgB K (wo W a) L t a (q + 1) b := by
        intro hx
        rcases hT with ⟨a1, a2⟩ | ⟨b1, b2, b3, b4, b5, b6⟩
        · refine Or.inl ⟨fun x x1 x2 x3 => ?_, a2⟩
          rcases Nat.eq_or_lt_of_le x3 with z | z
          · have := hx x x1 x2 z
            rw [a2] at this
            rw [z]; exact this
          · exact a1 x x1 x2 (by omega)
        · refine Or.inr ⟨b1, b2, by omega, b4, fun x x1 x2 x3 => ?_, b6⟩
          rcases Nat.eq_or_lt_of_le x3 with z | z
          · have := hx x x1 x2 z
            rw [z]
            omega
          · exact b5 x x1 x2 (by omega)
      rcases hho q (by omega) with ⟨a1, a2⟩ | ⟨y, y1, y2, y3, y4, y5, y6⟩
      · rw [a1, if_pos rfl, nI_1]
        exact ih (q + 1) b (by omega) (by omega) hb (hskip (fun x x1 x2 x3 => absurd x3 (a2 x (Nat.zero_le _) x1 x2)))
      · rw [y5, if_neg (nI_neg1 (by omega)), show nI q = oI (q + 1) from (oI_s q).symm, X0_worthOf_ok N hW hw4 (by omega) (by omega), bd]
        simp (disch := omega) only [q_le]
        by_cases hlt : wo W a (t b) ≤ wo W a (q + 1)
        · rw [if_pos hlt, oI_s, nI_1]
          exact ih (q + 1) b (by omega) (by omega) hb (hskip (fun x x1 x2 x3 => hlt))
        · rw [if_neg hlt, bd, bd, oI_s, nI_1]
          have hrec := ih (q + 1) y (by omega) (by omega) (by omega) (by
            refine Or.inr ⟨y2, y3, by omega, ?_, fun x x1 x2 x3 => ?_, fun x x1 x2 => by rw [y4]; exact y6 x (Nat.zero_le _) x1 x2⟩
            · rw [y4]
              rcases hT with ⟨a1, a2⟩ | ⟨b1, b2, b3, b4, b5, b6⟩
              · rw [a2] at hlt; omega
              · omega
            · rw [y4]
              rcases Nat.eq_or_lt_of_le x3 with z | z
              · exact Or.inr ⟨by rw [z], by omega⟩
              · refine Or.inl ?_
                rcases hT with ⟨a1, a2⟩ | ⟨b1, b2, b3, b4, b5, b6⟩
                · have := a1 x x1 x2 (by omega)
                  rw [a2] at hlt
                  omega
                · have := b5 x x1 x2 (by omega)
                  omega)
          rw [y4] at hrec
          exact hrec
theorem X6_targetOf_ok (hN : 40000 ≤ N) (hP : P ≤ 6) (hK : K ≤ 8) (hW : ∀ a q, W a q ≤ 6) {cw : Nat → Int32} (hw4 : ∀ a q, a < 8 → q < 6 → cw (a * 6 + q) = nI (W a q)) {L : Nat → Bool} {t : Nat → Nat} {holds served ho : Nat → Int32} (h : LfIs K L t holds served) (hho : ∀ q, q < 6 → HoIs K L t 0 q (ho q)) {a : Nat} (ha : a < K) (htP : ∀ x, x < K → t x ≤ P) :
    ∃ b, f_X6_targetOf N (nI P) ho holds cw (nI a) = some (nI b) ∧ Tgt K (wo W a) L t a b := by
  have ht0 : ∀ x, x < K → L x = true → t x ≠ 0 := fun x hx hL => by
    obtain ⟨_, _, s, _, _, h5⟩ := h x hx
    exact (h5.mp hL).1
  unfold f_X6_targetOf
  obtain ⟨h1, h2, _⟩ := h a ha
  rw [rdI_n _ (by omega) (by decide), bd, h1, X0_worthOf_ok N hW hw4 (by omega) h2, bd]
  obtain ⟨b, b1, b2⟩ := tg_20 (N := N) (holds := holds) hP hK hW hw4 hho ha ht0 N 0 a (Nat.zero_le _) (by omega) (by omega) (Or.inl ⟨fun x x1 x2 x3 => absurd (show t x = 0 by omega) (ht0 x x1 x2), rfl⟩)
  refine ⟨b, b1, ?_⟩
  rcases b2 with ⟨a1, a2⟩ | ⟨c1, c2, c3, c4, c5, c6⟩
  · exact Or.inl ⟨fun x x1 x2 => a1 x x1 x2 (htP x x1), a2⟩
  · exact Or.inr ⟨c1, c2, c4, fun x x1 x2 => c5 x x1 x2 (htP x x1), c6⟩
end TRADE1
