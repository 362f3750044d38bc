/-! shares: all steps; share, envies -/
section EAT3
variable {N K P : Nat} {S : Nat → Nat} {W T : Nat → Nat → Nat}
def nwR (K P τ : Nat) (r o : Nat → Nat) : Nat → Nat := fun q => r q * (sst K τ r o P).2.2 - (sst K τ r o P).2.1 * had K o (q + 1)
def nwE (K P τ : Nat) (r o : Nat → Nat) (e : Nat → Nat → Nat) : Nat → Nat → Nat := eat1 o (sst K τ r o P).2.1 K (fun a q => e a q * (sst K τ r o P).2.2)
theorem EtIs_mul {e : Nat → Nat → Nat} {eaten eaten' : Nat → Int64} {b : Nat} (h : EtIs e eaten) (h2 : ∀ k, k < 48 → eaten' k = eaten k * lN b) : EtIs (fun a q => e a q * b) eaten' := by
  intro a q ha hq
  rw [h2 _ (by omega), h a q ha hq, lN_mul]
theorem step_class (hN : 40000 ≤ N) (hK : K ≤ 8) (hP : P ≤ 6) (hW : ∀ a q, W a q ≤ 6) {cl cs : Nat → Int32} (hl : LikesOk P W cl) {w τ : Nat} {r o : Nat → Nat} {e : Nat → Nat → Nat} (hb : EB P w τ r) (hτ : 0 < τ) (ho : OpIs P K W r o) {eaten rest : Nat → Int64} (het : EtIs e eaten) (hr : RsIs P r rest) (et ea : Nat → Int32) (n : Nat) {i : Nat} (hi : i ≤ 6) :
    ∃ et' ea' eaten' rest', f_X1_run_68 N (nI K) (nI P) cl cs (n + 1) (lN w) (lN τ) eaten et ea rest (nI i) = f_X1_run_68 N (nI K) (nI P) cl cs n (lN (w * (sst K τ r o P).2.2)) (lN (τ * (sst K τ r o P).2.2 - (sst K τ r o P).2.1)) eaten' et' ea' rest' (nI (i + 1)) ∧
      EtIs (nwE K P τ r o e) eaten' ∧ ∀ q, q < P → rest' q = lN (nwR K P τ r o q) := by
  have hb0 := hb
  obtain ⟨hb1, hb2, hb3⟩ := hb
  obtain ⟨i1, i2, i3, i4, i5⟩ := sst_ok (K := K) τ r o P
  obtain ⟨et', ea', s1, s2, s3⟩ := seatAll_ok (N := N) hN hK hP hW hl hr ho et ea
  have hsu := soonest_ok (N := N) hN hP hK hb0 s2 hr
  have hoP : ∀ a, a < K → o a ≤ P := fun a ha => (ho a ha).2
  have hu : ∀ q, q < P → (sst K τ r o P).2.1 * had K o (q + 1) ≤ r q * (sst K τ r o P).2.2 := by
    intro q hq
    rcases Nat.eq_zero_or_pos (had K o (q + 1)) with z | z
    · rw [z, Nat.mul_zero]; exact Nat.zero_le _
    · exact i4 q hq z
  rw [f_X1_run_68, if_neg (show ¬ (6 : Int32) < nI i from nI_nlt (b := i) (a := 6) hi (by decide)), if_neg (fun z => by have := (lN_le (b := 0) (by omega) (by decide)).mp z; omega), s1, bd]
  simp only
  rw [hsu, bd]
  have had0 : ∀ q, had 0 o (q + 1) = 0 := fun q => rfl
  have eat0 : ∀ u (e : Nat → Nat → Nat), eat1 o u 0 e = e := fun u e => funext fun a => funext fun q => by unfold eat1; rw [if_neg (fun z => absurd z.1 (Nat.not_lt_zero a))]
  rcases i5 with ⟨j1, j2, j3⟩ | ⟨q, q1, q2, q3, q4, q5⟩
  · rw [j1, if_pos oI_0]
    obtain ⟨eaten', rest', f1, f2, f3⟩ := ef_2 (N := N) (o := o) (ea := ea') (tt := lN τ) (u := τ) (e := e) (r := r) hK hP hoP s3 (fun q hq => by have := hu q hq; rw [j2, j3, Nat.mul_one] at this; exact this) N 0 eaten rest (Nat.zero_le _) (by omega) (by rw [eat0]; exact het) (fun q hq => by rw [had0, Nat.mul_zero, Nat.sub_zero]; exact (hr q hq).1)
    have f1' : f_X1_eatFor N (nI K) ea' (lN τ) eaten rest (lN τ) = _ := f1
    rw [f1', bd]
    simp only
    rw [nI_1]
    refine ⟨et', ea', eaten', rest', ?_, ?_, ?_⟩
    · rw [j2, j3, Nat.mul_one, Nat.mul_one, lN_sub (Nat.le_refl _)]
    · unfold nwE
      rw [j2, j3]
      have e1 : (fun a q => e a q * 1) = e := funext fun a => funext fun q => Nat.mul_one _
      rw [e1]
      exact f2
    · intro q hq
      unfold nwR
      rw [j2, j3, Nat.mul_one]
      exact f3 q hq
  · have hq6 : q < 6 := by omega
    have hh : had K o (q + 1) ≤ K := fb_ct_le _ _
    obtain ⟨r1, r2⟩ := hr q q1
    have hrb := hb3 q q1
    rw [q2, oI_s, if_neg (nI_neg1 (by omega)), rdL_n _ hq6 (by decide), bd, rdI_n _ hq6 (by decide), bd, s2 q hq6, r1]
    obtain ⟨eaten1, rest1, g1, g2, g3⟩ := rf_24 (N := N) (b := had K o (q + 1)) hN (by omega) (ww := lN w * lN (had K o (q + 1))) (tt := lN τ * lN (had K o (q + 1))) (rest := rest) N 0 eaten eaten (Nat.zero_le _) (by omega) (fun k => by rw [if_neg (Nat.not_lt_zero k)])
    have g1' : f_X1_refine N (lN w) (lN τ) eaten rest (nI (had K o (q + 1))) = some (lN w * lN (had K o (q + 1)), lN τ * lN (had K o (q + 1)), eaten1, rest1) := by
      unfold f_X1_refine
      rw [nI_l (by omega)]
      exact g1
    rw [g1', bd]
    simp only
    obtain ⟨eaten', rest', f1, f2, f3⟩ := ef_2 (N := N) (o := o) (ea := ea') (tt := lN τ * lN (had K o (q + 1))) (u := r q) (e := fun a p => e a p * had K o (q + 1)) (r := fun p => r p * had K o (q + 1)) hK hP hoP s3 (fun p hp => by have := hu p hp; rw [q3, q4] at this; exact this) N 0 eaten1 rest1 (Nat.zero_le _) (by omega) (by rw [eat0]; exact EtIs_mul het g2) (fun p hp => by rw [had0, Nat.mul_zero, Nat.sub_zero, g3 p (by omega), (hr p hp).1, lN_mul])
    have f1' : f_X1_eatFor N (nI K) ea' (lN τ * lN (had K o (q + 1))) eaten1 rest1 (lN (r q)) = _ := f1
    rw [f1', bd]
    simp only
    rw [nI_1]
    refine ⟨et', ea', eaten', rest', ?_, ?_, ?_⟩
    · rw [q3, q4] at i3 ⊢
      rw [lN_mul, lN_mul, lN_sub i3]
    · unfold nwE
      rw [q3, q4]
      exact f2
    · intro p hp
      unfold nwR
      rw [q3, q4]
      exact f3 p hp
theorem step_ref (hN : 40000 ≤ N) (hK : K ≤ 8) (hP : P ≤ 6) (hW : ∀ a q, W a q ≤ 6) {ms mw : Nat → Int32} (hw4 : ∀ a q, a < 8 → q < 6 → mw (a * 6 + q) = nI (W a q)) {w τ : Nat} {r o : Nat → Nat} {e : Nat → Nat → Nat} (hb : EB P w τ r) (hτ : 0 < τ) (ho : OpIs P K W r o) {ate left : Nat → Int64} (het : EtIs e ate) (hr : RsIs P r left) (ea : Nat → Int32) (n : Nat) :
    ∃ ea' ate' left', f_X8_findShares_57 N (nI K) (nI P) ms mw (n + 1) (lN w) ate ea left (lN τ) = f_X8_findShares_57 N (nI K) (nI P) ms mw n (lN (w * (sst K τ r o P).2.2)) ate' ea' left' (lN (τ * (sst K τ r o P).2.2 - (sst K τ r o P).2.1)) ∧
      EtIs (nwE K P τ r o e) ate' ∧ ∀ q, q < P → left' q = lN (nwR K P τ r o q) := by
  have hb0 := hb
  obtain ⟨hb1, hb2, hb3⟩ := hb
  obtain ⟨i1, i2, i3, i4, i5⟩ := sst_ok (K := K) τ r o P
  have ho6 : ∀ a, a < K → o a ≤ 6 := fun a ha => Nat.le_trans (ho a ha).2 hP
  have hoP : ∀ a, a < K → o a ≤ P := fun a ha => (ho a ha).2
  have hu : ∀ q, q < P → (sst K τ r o P).2.1 * had K o (q + 1) ≤ r q * (sst K τ r o P).2.2 := by
    intro q hq
    rcases Nat.eq_zero_or_pos (had K o (q + 1)) with z | z
    · rw [z, Nat.mul_zero]; exact Nat.zero_le _
    · exact i4 q hq z
  rw [f_X8_findShares_57, if_neg (fun z => by have := (lN_le (b := 0) (by omega) (by decide)).mp z; omega)]
  obtain ⟨ea', s1, s2⟩ := fs_71 (N := N) (ms := ms) (ww := lN w) (v1 := lN τ) (v3 := lN τ) (v5 := 1) (ate := ate) hN hK hP hW hw4 hr ho (f_X8_findShares_57 N (nI K) (nI P) ms mw n) N 0 ea (Nat.zero_le _) (by omega) (fun x hx => absurd hx (Nat.not_lt_zero x))
  have h102 := fs_102 (N := N) (ms := ms) (mw := mw) (ate := ate) hN hK hP ho6 s2 hb0 hr (f_X8_findShares_57 N (nI K) (nI P) ms mw n) N 0 (Nat.zero_le _) (by omega)
  have h102' : f_X8_findShares_102 N (nI K) (nI P) ms mw (f_X8_findShares_57 N (nI K) (nI P) ms mw n) N (lN w) ate ea' left (lN τ) (lN τ) 1 0 = _ := h102
  obtain ⟨left', l1, l2⟩ := fs_184 (N := N) (ms := ms) (mw := mw) (b := (sst K τ r o P).2.2) (ww := lN w * lN (sst K τ r o P).2.2) (v1 := (lN τ * lN (sst K τ r o P).2.2) - lN (sst K τ r o P).2.1) (ate := ate) hN hK hP ho6 s2 hu (f_X8_findShares_57 N (nI K) (nI P) ms mw n) N 0 left (Nat.zero_le _) (by omega) (fun p hp => by rw [if_neg (Nat.not_lt_zero p)]; exact (hr p hp).1)
  obtain ⟨ate1, a1, a2⟩ := fs_229 (N := N) (P := P) (ms := ms) (mw := mw) (ea := ea') (u := (sst K τ r o P).2.1) (b := (sst K τ r o P).2.2) (ww := lN w * lN (sst K τ r o P).2.2) (v1 := (lN τ * lN (sst K τ r o P).2.2) - lN (sst K τ r o P).2.1) (left := left') hN hK (f_X8_findShares_57 N (nI K) (nI P) ms mw n) N 0 ate ate (Nat.zero_le _) (by omega) (fun k => by rw [if_neg (Nat.not_lt_zero k)])
  obtain ⟨ate', b1, b2⟩ := fs_257 (N := N) (ms := ms) (mw := mw) (u := (sst K τ r o P).2.1) (e := fun a q => e a q * (sst K τ r o P).2.2) (ww := lN w * lN (sst K τ r o P).2.2) (v1 := (lN τ * lN (sst K τ r o P).2.2) - lN (sst K τ r o P).2.1) (left := left') hK hP hoP s2 (f_X8_findShares_57 N (nI K) (nI P) ms mw n) N 0 ate1 (Nat.zero_le _) (by omega) (by
    have eat0 : eat1 o (sst K τ r o P).2.1 0 (fun a q => e a q * (sst K τ r o P).2.2) = fun a q => e a q * (sst K τ r o P).2.2 := funext fun a => funext fun q => by unfold eat1; rw [if_neg (fun z => absurd z.1 (Nat.not_lt_zero a))]
    rw [eat0]
    exact EtIs_mul het a2)
  refine ⟨ea', ate', left', ?_, b2, l2⟩
  rw [show (0 : Int32) = nI 0 from rfl, s1, h102', show (0 : Int32) = nI 0 from rfl, l1, show (0 : Int32) = nI 0 from rfl, a1, show (0 : Int32) = nI 0 from rfl, b1, lN_mul, lN_mul, lN_sub i3]
theorem EB_step (hK : K ≤ 8) {w τ : Nat} {r o : Nat → Nat} (hb : EB P w τ r) (hw : w * 8 ≤ 262144 ∨ (sst K τ r o P).1 = 0) : EB P (w * (sst K τ r o P).2.2) (τ * (sst K τ r o P).2.2 - (sst K τ r o P).2.1) (nwR K P τ r o) := by
  obtain ⟨hb1, hb2, hb3⟩ := hb
  obtain ⟨i1, i2, i3, i4, i5⟩ := sst_ok (K := K) τ r o P
  have hby : (sst K τ r o P).2.2 ≤ 8 := by omega
  refine ⟨?_, ?_, fun q hq => ?_⟩
  · rcases hw with hw | hw
    · have : w * (sst K τ r o P).2.2 ≤ w * 8 := Nat.mul_le_mul_left _ hby
      omega
    · rcases i5 with ⟨_, _, e⟩ | ⟨q, _, e, _⟩
      · rw [e, Nat.mul_one]; exact hb1
      · omega
  · have : τ * (sst K τ r o P).2.2 ≤ w * (sst K τ r o P).2.2 := Nat.mul_le_mul_right _ hb2
    omega
  · unfold nwR
    have h1 : r q * (sst K τ r o P).2.2 ≤ 3 * w * (sst K τ r o P).2.2 := Nat.mul_le_mul_right _ (hb3 q hq)
    rw [Nat.mul_assoc] at h1
    omega
/-- amounts eaten stay in bounds -/
def EE (w τ : Nat) (e : Nat → Nat → Nat) : Prop := 0 < w ∧ ∀ a q, e a q + τ ≤ w
theorem EE_step {w τ : Nat} {r o : Nat → Nat} {e : Nat → Nat → Nat} (h : EE w τ e) : EE (w * (sst K τ r o P).2.2) (τ * (sst K τ r o P).2.2 - (sst K τ r o P).2.1) (nwE K P τ r o e) := by
  obtain ⟨h0, h1⟩ := h
  obtain ⟨i1, i2, i3, i4, i5⟩ := sst_ok (K := K) τ r o P
  refine ⟨Nat.mul_pos h0 (by omega), fun a q => ?_⟩
  have := Nat.mul_le_mul_right (sst K τ r o P).2.2 (h1 a q)
  rw [Nat.add_mul] at this
  unfold nwE eat1
  show (if a < K ∧ o a = q + 1 then e a q * (sst K τ r o P).2.2 + (sst K τ r o P).2.1 else e a q * (sst K τ r o P).2.2) + _ ≤ _
  split <;> omega
theorem ct_step (hP : P ≤ 6) {τ : Nat} {r o : Nat → Nat} (ho : OpIs P K W r o) (hs : (sst K τ r o P).1 ≠ 0) : fb_ct (fun q => decide (0 < nwR K P τ r o q)) P + 1 ≤ fb_ct (fun q => decide (0 < r q)) P := by
  obtain ⟨i1, i2, i3, i4, i5⟩ := sst_ok (K := K) τ r o P
  rcases i5 with ⟨e, _, _⟩ | ⟨s, s1, s2, s3, s4, s5⟩
  · exact absurd e hs
  · have hrs : 0 < r s := by
      obtain ⟨a, ha, hd⟩ := fb_ct_pos.mp s5
      have hoa : o a = s + 1 := by simpa using hd
      have := (ho a ha).1
      rw [hoa] at this
      exact this.2.2.1
    have h1 := fb_ct_upd (fun q => decide (0 < r q)) false s1
    rw [if_pos (decide_eq_true hrs), if_neg (by decide)] at h1
    have h2 : fb_ct (fun q => decide (0 < nwR K P τ r o q)) P ≤ fb_ct (fun k => if k = s then false else decide (0 < r k)) P := by
      refine fb_ct_sub (fun q hq hp => ?_)
      have hp : 0 < nwR K P τ r o q := by simpa using hp
      unfold nwR at hp
      by_cases e : q = s
      · rw [e, s3, s4, Nat.sub_self] at hp
        exact absurd hp (Nat.lt_irrefl 0)
      · rw [if_neg e]
        refine decide_eq_true ?_
        rcases Nat.eq_zero_or_pos (r q) with z | z
        · rw [z, Nat.zero_mul, Nat.zero_sub] at hp
          exact absurd hp (Nat.lt_irrefl 0)
        · exact z
    omega
theorem eat_rounds (hN : 40000 ≤ N) (hK : K ≤ 8) (hP : P ≤ 6) (hW : ∀ a q, W a q ≤ 6) {cl cs ms mw : Nat → Int32} (hl : LikesOk P W cl) (hw4 : ∀ a q, a < 8 → q < 6 → mw (a * 6 + q) = nI (W a q)) :
    ∀ (c n1 n2 i w τ : Nat) (r : Nat → Nat) (e : Nat → Nat → Nat) (et ea ea2 : Nat → Int32) (eaten rest ate left : Nat → Int64), fb_ct (fun q => decide (0 < r q)) P ≤ c → i + fb_ct (fun q => decide (0 < r q)) P ≤ 6 → c + 2 < n1 → c + 2 < n2 → w ≤ 8 ^ i → EB P w τ r → EE w τ e → EtIs e eaten → EtIs e ate → RsIs P r rest → RsIs P r left →
      ∃ w' e' et' ea' eaten' rest' ate' ea2' left' time', f_X1_run_68 N (nI K) (nI P) cl cs n1 (lN w) (lN τ) eaten et ea rest (nI i) = some (lN w', time', eaten', et', ea', rest') ∧
        f_X8_findShares_57 N (nI K) (nI P) ms mw n2 (lN w) ate ea2 left (lN τ) = some (lN w', ate', ea2', left') ∧ EtIs e' eaten' ∧ EtIs e' ate' ∧ w' ≤ 262144 ∧ EE w' 0 e' := by
  intro c
  induction c with
  | zero =>
    intro n1 n2 i w τ r e et ea ea2 eaten rest ate left hc hi hn1 hn2 hw8 hb hE h1 h2 h3 h4
    have done : ∀ (n1 n2 i w : Nat) (e : Nat → Nat → Nat) (et ea ea2 : Nat → Int32) (eaten rest ate left : Nat → Int64), 0 < n1 → 0 < n2 → w ≤ 262144 → EE w 0 e → EtIs e eaten → EtIs e ate → ∃ w' e' et' ea' eaten' rest' ate' ea2' left' time', f_X1_run_68 N (nI K) (nI P) cl cs n1 (lN w) (lN 0) eaten et ea rest (nI i) = some (lN w', time', eaten', et', ea', rest') ∧
        f_X8_findShares_57 N (nI K) (nI P) ms mw n2 (lN w) ate ea2 left (lN 0) = some (lN w', ate', ea2', left') ∧ EtIs e' eaten' ∧ EtIs e' ate' ∧ w' ≤ 262144 ∧ EE w' 0 e' := by
      intro n1 n2 i w e et ea ea2 eaten rest ate left k1 k2 k3 k4 k5 k6
      obtain ⟨n1, rfl⟩ : ∃ n', n1 = n' + 1 := ⟨n1 - 1, by omega⟩
      obtain ⟨n2, rfl⟩ : ∃ n', n2 = n' + 1 := ⟨n2 - 1, by omega⟩
      rw [f_X1_run_68, f_X8_findShares_57, if_pos (show lN 0 ≤ 0 from by decide), if_pos (show lN 0 ≤ 0 from by decide)]
      refine ⟨w, e, et, ea, eaten, rest, ate, ea2, left, lN 0, ?_, rfl, k5, k6, k3, k4⟩
      by_cases h : (6 : Int32) < nI i
      · rw [if_pos h]
      · rw [if_neg h]
    rcases Nat.eq_zero_or_pos τ with z | z
    · subst z
      exact done n1 n2 i w e et ea ea2 eaten rest ate left (by omega) (by omega) hb.1 hE h1 h2
    · obtain ⟨o, ho⟩ := ops_some hP K W r
      have hs : (sst K τ r o P).1 = 0 := by
        rcases Nat.eq_zero_or_pos (sst K τ r o P).1 with y | y
        · exact y
        · have := ct_step hP ho (τ := τ) (by omega); omega
      obtain ⟨n1, rfl⟩ : ∃ n', n1 = n' + 1 := ⟨n1 - 1, by omega⟩
      obtain ⟨n2, rfl⟩ : ∃ n', n2 = n' + 1 := ⟨n2 - 1, by omega⟩
      obtain ⟨et', ea', eaten', rest', a1, a2, a3⟩ := step_class (N := N) (cs := cs) hN hK hP hW hl hb z ho h1 h3 et ea n1 (show i ≤ 6 by omega)
      obtain ⟨ea2', ate', left', b1, b2, b3⟩ := step_ref (N := N) (ms := ms) hN hK hP hW hw4 hb z ho h2 h4 ea2 n2
      obtain ⟨i1, i2, i3, i4, i5⟩ := sst_ok (K := K) τ r o P
      have hEB := EB_step (K := K) (o := o) hK hb (Or.inr hs)
      have hEE := EE_step (K := K) (P := P) (r := r) (o := o) hE
      have h0 : τ * (sst K τ r o P).2.2 - (sst K τ r o P).2.1 = 0 := by
        rcases i5 with ⟨_, e1, e2⟩ | ⟨q, _, e1, _⟩
        · rw [e1, e2]; omega
        · omega
      rw [a1, b1]
      rw [h0] at hEE ⊢
      exact done n1 n2 (i + 1) _ _ et' ea' ea2' eaten' rest' ate' left' (by omega) (by omega) hEB.1 hEE a2 b2
  | succ c ih =>
    intro n1 n2 i w τ r e et ea ea2 eaten rest ate left hc hi hn1 hn2 hw8 hb hE h1 h2 h3 h4
    rcases Nat.eq_or_lt_of_le hc with hceq | hclt
    · have h8i : 8 ^ i * 8 ≤ 262144 := by
        have : 8 ^ (i + 1) ≤ 8 ^ 6 := Nat.pow_le_pow_right (by decide) (by omega)
        rw [Nat.pow_succ] at this
        exact this
      rcases Nat.eq_zero_or_pos τ with z | z
      · subst z
        obtain ⟨n1, rfl⟩ : ∃ n', n1 = n' + 1 := ⟨n1 - 1, by omega⟩
        obtain ⟨n2, rfl⟩ : ∃ n', n2 = n' + 1 := ⟨n2 - 1, by omega⟩
        rw [f_X1_run_68, f_X8_findShares_57, if_pos (show lN 0 ≤ 0 from by decide), if_pos (show lN 0 ≤ 0 from by decide)]
        refine ⟨w, e, et, ea, eaten, rest, ate, ea2, left, lN 0, ?_, rfl, h1, h2, hb.1, hE⟩
        by_cases h : (6 : Int32) < nI i
        · rw [if_pos h]
        · rw [if_neg h]
      · obtain ⟨o, ho⟩ := ops_some hP K W r
        obtain ⟨n1, rfl⟩ : ∃ n', n1 = n' + 1 := ⟨n1 - 1, by omega⟩
        obtain ⟨n2, rfl⟩ : ∃ n', n2 = n' + 1 := ⟨n2 - 1, by omega⟩
        obtain ⟨et', ea', eaten', rest', a1, a2, a3⟩ := step_class (N := N) (cs := cs) hN hK hP hW hl hb z ho h1 h3 et ea n1 (show i ≤ 6 by omega)
        obtain ⟨ea2', ate', left', b1, b2, b3⟩ := step_ref (N := N) (ms := ms) hN hK hP hW hw4 hb z ho h2 h4 ea2 n2
        obtain ⟨i1, i2, i3, i4, i5⟩ := sst_ok (K := K) τ r o P
        have hby : (sst K τ r o P).2.2 ≤ 8 := by omega
        have hEB := EB_step (K := K) (o := o) hK hb (Or.inl (by omega))
        have hEE := EE_step (K := K) (P := P) (r := r) (o := o) hE
        have hRb : ∀ q, q < P → nwR K P τ r o q < 2 ^ 31 := fun q hq => by have := hEB.2.2 q hq; have := hEB.1; omega
        rw [a1, b1]
        by_cases hs : (sst K τ r o P).1 = 0
        · have h0 : τ * (sst K τ r o P).2.2 - (sst K τ r o P).2.1 = 0 := by
            rcases i5 with ⟨_, e1, e2⟩ | ⟨q, _, e1, _⟩
            · rw [e1, e2]; omega
            · omega
          rw [h0] at hEE ⊢
          obtain ⟨n1, rfl⟩ : ∃ n', n1 = n' + 1 := ⟨n1 - 1, by omega⟩
          obtain ⟨n2, rfl⟩ : ∃ n', n2 = n' + 1 := ⟨n2 - 1, by omega⟩
          rw [f_X1_run_68, f_X8_findShares_57, if_pos (show lN 0 ≤ 0 from by decide), if_pos (show lN 0 ≤ 0 from by decide)]
          refine ⟨_, _, et', ea', eaten', rest', ate', ea2', left', lN 0, ?_, rfl, a2, b2, hEB.1, hEE⟩
          by_cases h : (6 : Int32) < nI (i + 1)
          · rw [if_pos h]
          · rw [if_neg h]
        · have hct := ct_step hP ho (τ := τ) hs
          refine ih n1 n2 (i + 1) _ _ (nwR K P τ r o) (nwE K P τ r o e) et' ea' ea2' eaten' rest' ate' left' (by omega) (by omega) (by omega) (by omega) ?_ hEB hEE a2 b2 (fun q hq => ⟨a3 q hq, hRb q hq⟩) (fun q hq => ⟨b3 q hq, hRb q hq⟩)
          rw [Nat.pow_succ]
          exact Nat.mul_le_mul hw8 hby
    · exact ih n1 n2 i w τ r e et ea ea2 eaten rest ate left (by omega) hi (by omega) (by omega) hw8 hb hE h1 h2 h3 h4
/-! start -/
theorem ru_33 (hN : 40000 ≤ N) (hP : P ≤ 6) {cl cs : Nat → Int32} (hs3 : ∀ q, q < 6 → cs q = nI (S q)) (hS : ∀ q, S q ≤ 3) {ww tt : Int64} {eaten : Nat → Int64} {et ea : Nat → Int32} :
    ∀ (n q : Nat) (rest : Nat → Int64), q ≤ P → P - q < n → (∀ p, p < q → rest p = lN (S p)) → ∃ rest', f_X1_run_33 N (nI K) (nI P) cl cs n ww tt eaten et ea rest (nI q) = f_X1_run_68 N (nI K) (nI P) cl cs N ww tt eaten et ea rest' 0 ∧ ∀ p, p < P → rest' p = lN (S p) := by
  intro n
  induction n with
  | zero => intro q r h1 h2; omega
  | succ n ih =>
    intro q rest hq hn h
    rw [f_X1_run_33]
    by_cases hc : P ≤ q
    · have : q = P := by omega
      subst this
      rw [if_pos (nI_le (Nat.le_refl _) (by omega))]
      exact ⟨rest, rfl, h⟩
    · have h3 := hS q
      rw [if_neg (nI_ge (by omega) (by omega)), rdI_n _ (by omega) (by decide), bd, wrL_n _ _ (by omega) (by decide), bd, nI_1, hs3 q (by omega), nI_l (by omega)]
      refine ih (q + 1) _ (by omega) (by omega) (fun p hp => ?_)
      by_cases e : p = q
      · rw [e, pk_uLs]
      · rw [pk_uLn e]; exact h p (by omega)
theorem ru_12 (hN : 40000 ≤ N) (hP : P ≤ 6) {cl cs : Nat → Int32} (hs3 : ∀ q, q < 6 → cs q = nI (S q)) (hS : ∀ q, S q ≤ 3) {ww tt : Int64} {rest : Nat → Int64} {et ea : Nat → Int32} :
    ∀ (n k : Nat) (eaten : Nat → Int64), k ≤ 48 → 48 - k < n → (∀ j, j < k → eaten j = lN 0) → ∃ eaten' rest', f_X1_run_12 N (nI K) (nI P) cl cs n ww tt eaten et ea rest (nI k) = f_X1_run_68 N (nI K) (nI P) cl cs N ww tt eaten' et ea rest' 0 ∧ (∀ j, j < 48 → eaten' j = lN 0) ∧ ∀ p, p < P → rest' p = lN (S p) := by
  intro n
  induction n with
  | zero => intro q r h1 h2; omega
  | succ n ih =>
    intro k eaten hk hn h
    rw [f_X1_run_12]
    by_cases hc : 48 ≤ k
    · have : k = 48 := by omega
      subst this
      rw [if_pos (show (48 : Int32) ≤ nI 48 from by decide)]
      obtain ⟨rest', r1, r2⟩ := ru_33 (N := N) (cl := cl) hN hP hs3 hS (ww := ww) (tt := tt) (eaten := eaten) (et := et) (ea := ea) (K := K) N 0 rest (Nat.zero_le _) (by omega) (fun p hp => absurd hp (Nat.not_lt_zero p))
      exact ⟨eaten, rest', r1, h, r2⟩
    · rw [if_neg (show ¬ (48 : Int32) ≤ nI k from nI_ge (b := 48) (by omega) (by decide)), wrL_n _ _ (by omega) (by decide), bd, nI_1]
      refine ih (k + 1) _ (by omega) (by omega) (fun j hj => ?_)
      by_cases e : j = k
      · rw [e, pk_uLs]; rfl
      · rw [pk_uLn e]; exact h j (by omega)
theorem fs_36 (hN : 40000 ≤ N) {ms mw : Nat → Int32} {ww : Int64} {left : Nat → Int64} {ea : Nat → Int32} :
    ∀ (n k : Nat) (ate : Nat → Int64), k ≤ 48 → 48 - k < n → (∀ j, j < k → ate j = lN 0) → ∃ ate', f_X8_findShares_36 N (nI K) (nI P) ms mw n ww ate ea left (nI k) = f_X8_findShares_57 N (nI K) (nI P) ms mw N ww ate' ea left 1 ∧ ∀ j, j < 48 → ate' j = lN 0 := by
  intro n
  induction n with
  | zero => intro q r h1 h2; omega
  | succ n ih =>
    intro k ate hk hn h
    rw [f_X8_findShares_36]
    by_cases hc : 48 ≤ k
    · have : k = 48 := by omega
      subst this
      rw [if_pos (show (48 : Int32) ≤ nI 48 from by decide)]
      exact ⟨ate, rfl, h⟩
    · rw [if_neg (show ¬ (48 : Int32) ≤ nI k from nI_ge (b := 48) (by omega) (by decide)), wrL_n _ _ (by omega) (by decide), bd, nI_1]
      refine ih (k + 1) _ (by omega) (by omega) (fun j hj => ?_)
      by_cases e : j = k
      · rw [e, pk_uLs]; rfl
      · rw [pk_uLn e]; exact h j (by omega)
theorem fs_7 (hN : 40000 ≤ N) (hP : P ≤ 6) {ms mw : Nat → Int32} (hs3 : ∀ q, q < 6 → ms q = nI (S q)) (hS : ∀ q, S q ≤ 3) {ww : Int64} {ate : Nat → Int64} {ea : Nat → Int32} :
    ∀ (n q : Nat) (left : Nat → Int64), q ≤ P → P - q < n → (∀ p, p < q → left p = lN (S p)) → ∃ ate' left', f_X8_findShares_7 N (nI K) (nI P) ms mw n ww ate ea left (nI q) = f_X8_findShares_57 N (nI K) (nI P) ms mw N ww ate' ea left' 1 ∧ (∀ j, j < 48 → ate' j = lN 0) ∧ ∀ p, p < P → left' p = lN (S p) := by
  intro n
  induction n with
  | zero => intro q r h1 h2; omega
  | succ n ih =>
    intro q left hq hn h
    rw [f_X8_findShares_7]
    by_cases hc : P ≤ q
    · have : q = P := by omega
      subst this
      rw [if_pos (nI_le (Nat.le_refl _) (by omega))]
      obtain ⟨ate', a1, a2⟩ := fs_36 (N := N) (K := K) (P := q) (ms := ms) (mw := mw) (ww := ww) (left := left) (ea := ea) hN N 0 ate (Nat.zero_le _) (by omega) (fun p hp => absurd hp (Nat.not_lt_zero p))
      exact ⟨ate', left, a1, a2, h⟩
    · have h3 := hS q
      rw [if_neg (nI_ge (by omega) (by omega)), rdI_n _ (by omega) (by decide), bd, wrL_n _ _ (by omega) (by decide), bd, nI_1, hs3 q (by omega), nI_l (by omega)]
      refine ih (q + 1) _ (by omega) (by omega) (fun p hp => ?_)
      by_cases e : p = q
      · rw [e, pk_uLs]
      · rw [pk_uLn e]; exact h p (by omega)
/-- both sides eat the same -/
theorem eat_ok (hN : 40000 ≤ N) (hG : GD K P S W T) {cl cs ms mw : Nat → Int32} (hl : LikesOk P W cl) (hc3 : ∀ q, q < 6 → cs q = nI (S q)) (hs3 : ∀ q, q < 6 → ms q = nI (S q)) (hw4 : ∀ a q, a < 8 → q < 6 → mw (a * 6 + q) = nI (W a q)) (ww tt ww2 : Int64) (eaten rest ate left : Nat → Int64) (et ea ea2 : Nat → Int32) :
    ∃ w' e' et' ea' eaten' rest' ate' ea2' left' time', f_X1_run N (nI K) (nI P) cl cs ww tt eaten et ea rest = some (lN w', time', eaten', et', ea', rest') ∧
        f_X8_findShares N (nI K) (nI P) ms mw ww2 ate ea2 left = some (lN w', ate', ea2', left') ∧ EtIs e' eaten' ∧ EtIs e' ate' ∧ w' ≤ 262144 ∧ EE w' 0 e' := by
  have hK := hG.K8
  have hP := hG.P6
  obtain ⟨eaten0, rest0, r1, r2, r3⟩ := ru_12 (N := N) (K := K) (cl := cl) hN hP hc3 hG.S3 (ww := 1) (tt := 1) (rest := rest) (et := et) (ea := ea) N 0 eaten (Nat.zero_le _) (by omega) (fun p hp => absurd hp (Nat.not_lt_zero p))
  obtain ⟨ate0, left0, s1, s2, s3⟩ := fs_7 (N := N) (K := K) (mw := mw) hN hP hs3 hG.S3 (ww := 1) (ate := ate) (ea := ea2) N 0 left (Nat.zero_le _) (by omega) (fun p hp => absurd hp (Nat.not_lt_zero p))
  have hR : ∀ q, q < P → S q < 2 ^ 31 := fun q _ => by have := hG.S3 q; omega
  have hct := fb_ct_le (fun q => decide (0 < S q)) P
  obtain ⟨w', e', et', ea', eaten', rest', ate', ea2', left', time', a1, a2, a3⟩ := eat_rounds (N := N) (cs := cs) (ms := ms) hN hK hP hG.W6 hl hw4 6 N N 0 1 1 S (fun _ _ => 0) et ea ea2 eaten0 rest0 ate0 left0 (by omega) (by omega) (by omega) (by omega) (Nat.le_refl _) ⟨by decide, Nat.le_refl _, fun q _ => hG.S3 q⟩ ⟨by decide, fun _ _ => Nat.le_refl _⟩ (fun a q ha hq => r2 _ (by omega)) (fun a q ha hq => s2 _ (by omega)) (fun q hq => ⟨r3 q hq, hR q hq⟩) (fun q hq => ⟨s3 q hq, hR q hq⟩)
  refine ⟨w', e', et', ea', eaten', rest', ate', ea2', left', time', ?_, ?_, a3⟩
  · have e : f_X1_run N (nI K) (nI P) cl cs ww tt eaten et ea rest = _ := r1
    rw [e]
    exact a1
  · have e : f_X8_findShares N (nI K) (nI P) ms mw ww2 ate ea2 left = _ := s1
    rw [e]
    exact a2
end EAT3
