/-! the class's board: likes, seats as bits, counts, digest; the reference's counts -/
section X0B
variable {N K P : Nat} {S : Nat → Nat} {W T : Nat → Nat → Nat}
/-- the row of likes of an asker, so far as keys (8 wish + place) are below B -/
def LKB (P : Nat) (w : Nat → Nat) (f : Nat → Int32) (m B : Nat) : Prop :=
  ∃ r : Nat → Nat, (∀ i, i < m → f i = nI (r i) ∧ r i < P ∧ 0 < w (r i) ∧ 8 * w (r i) + r i < B) ∧ (∀ i j, i < j → j < m → 8 * w (r i) + r i < 8 * w (r j) + r j) ∧ ∀ q, q < P → 0 < w q → 8 * w q + q < B → ∃ i, i < m ∧ r i = q
def LK (P : Nat) (w : Nat → Nat) (f : Nat → Int32) : Prop := ∃ m, m ≤ 6 ∧ LKB P w f m 64 ∧ ∀ i, m ≤ i → i < 6 → f i = -1
theorem LKB_le {w : Nat → Nat} {f : Nat → Int32} {m B : Nat} (h : LKB P w f m B) : m ≤ P := by
  obtain ⟨r, h1, h2, -⟩ := h
  exact fb_holes P m r (fun i hi => (h1 i hi).2.1) (fun i j hij hj e => by have := h2 i j hij hj; rw [e] at this; omega)
theorem LKB_mono {w : Nat → Nat} {f : Nat → Int32} {m B B' : Nat} (h : LKB P w f m B) (hB : B ≤ B') (hn : ∀ q, q < P → 0 < w q → ¬ (B ≤ 8 * w q + q ∧ 8 * w q + q < B')) : LKB P w f m B' := by
  obtain ⟨r, h1, h2, h3⟩ := h
  refine ⟨r, fun i hi => ?_, h2, fun q hq hw hb => ?_⟩
  · obtain ⟨a, b, c, d⟩ := h1 i hi
    exact ⟨a, b, c, by omega⟩
  · have := hn q hq hw
    exact h3 q hq hw (by omega)
theorem LKB_add {w : Nat → Nat} {f : Nat → Int32} {m q : Nat} (hq : q < P) (hw : 0 < w q) (h : LKB P w f m (8 * w q + q)) (hP : P ≤ 6) : m < P ∧ LKB P w (upd f m (nI q)) (m + 1) (8 * w q + q + 1) := by
  obtain ⟨r, h1, h2, h3⟩ := h
  have hm : m + 1 ≤ P := by
    refine fb_holes P (m + 1) (fun i => if i = m then q else r i) (fun i hi => ?_) (fun i j hij hj e => ?_)
    · split
      · exact hq
      · exact (h1 i (by omega)).2.1
    · rw [if_neg (by omega)] at e
      have hi := h1 i (by omega)
      split at e
      · rw [e] at hi; omega
      · have := h2 i j hij (by omega)
        rw [e] at this; omega
  refine ⟨by omega, fun i => if i = m then q else r i, fun i hi => ?_, fun i j hij hj => ?_, fun p hp hwp hb => ?_⟩
  · dsimp only
    by_cases e : i = m
    · rw [if_pos e]
      unfold upd
      rw [if_pos e]
      exact ⟨rfl, hq, hw, by omega⟩
    · rw [if_neg e]
      unfold upd
      rw [if_neg e]
      obtain ⟨a, b, c, d⟩ := h1 i (by omega)
      exact ⟨a, b, c, by omega⟩
  · dsimp only
    rw [if_neg (show ¬ i = m by omega)]
    have hi := h1 i (by omega)
    by_cases e : j = m
    · rw [if_pos e]; omega
    · rw [if_neg e]; exact h2 i j hij (by omega)
  · by_cases e : p = q
    · exact ⟨m, by omega, by simp [e]⟩
    · have : 8 * w p + p < 8 * w q + q := by omega
      obtain ⟨i, hi, hr⟩ := h3 p hp hwp this
      exact ⟨i, by omega, by simp only; rw [if_neg (by omega)]; exact hr⟩
theorem LKB_cong {w : Nat → Nat} {f f' : Nat → Int32} {m B : Nat} (h : LKB P w f m B) (e : ∀ i, i < m → f i = f' i) : LKB P w f' m B := by
  obtain ⟨r, h1, h2⟩ := h
  exact ⟨r, fun i hi => by rw [← e i hi]; exact h1 i hi, h2⟩
theorem X0_sl13 (hP : P ≤ 6) (hW : ∀ a q, W a q ≤ 6) {c_wishes : Nat → Int32} (hw : ∀ a q, a < 8 → q < 6 → c_wishes (a * 6 + q) = nI (W a q)) {a v : Nat} (ha : a < 8) (hv0 : 1 ≤ v) (hv : v ≤ 6) (l0 : Nat → Int32)
    (k4 : (Nat → Int32) → Int32 → Int32 → Int32 → Option ((Nat → Int32))) :
    ∀ (n q m : Nat) (l : Nat → Int32), q ≤ P → P - q < n → LKB P (W a) (fun i => l (a * 6 + i)) m (8 * v + q) → (∀ j, (j < a * 6 ∨ a * 6 + 6 ≤ j) → l j = l0 j) →
      ∃ m' l', LKB P (W a) (fun i => l' (a * 6 + i)) m' (8 * (v + 1)) ∧ (∀ j, (j < a * 6 ∨ a * 6 + 6 ≤ j) → l' j = l0 j) ∧ f_X0_sortLikes_13 N (nI P) c_wishes k4 n l (nI a) (nI m) (nI v) (nI q) = k4 l' (nI a) (nI m') (nI (v + 1)) := by
  intro n
  induction n with
  | zero => intro q m l h1 h2; omega
  | succ n ih =>
    intro q m l hq hn hl ho
    have hmP := LKB_le hl
    rw [f_X0_sortLikes_13]
    by_cases h : P ≤ q
    · simp (disch := omega) only [bd, rdI_n, wrI_n, rdL_n, wrL_n, ix6, ix6', ix7, ix7', ix8, ix8', nI_1, q_le, if_pos h]
      exact ⟨m, l, LKB_mono hl (by omega) (fun p hp hw2 hh => by have := hW a p; omega), ho, rfl⟩
    · have h6 := hW a q
      have hqP : q < P := by omega
      simp (disch := omega) only [bd, rdI_n, wrI_n, rdL_n, wrL_n, ix6, ix6', ix7, ix7', ix8, ix8', nI_1, q_le, if_neg h, hw a q ha (by omega), q_eq]
      by_cases hv2 : W a q = v
      · rw [if_pos hv2]
        obtain ⟨hm, hadd⟩ := LKB_add (w := W a) (q := q) hqP (by omega) (by rw [hv2]; exact hl) hP
        simp (disch := omega) only [bd, rdI_n, wrI_n, rdL_n, wrL_n, ix6, ix6', ix7, ix7', ix8, ix8', nI_1, q_6le, if_neg]
        refine ih (q + 1) (m + 1) _ (by omega) (by omega) ?_ (fun j hj => ?_)
        · rw [hv2] at hadd
          refine LKB_cong hadd (fun i hi => ?_)
          unfold upd
          by_cases e : i = m
          · rw [if_pos e, if_pos (by omega)]
          · rw [if_neg e, if_neg (by omega)]
        · unfold upd
          rw [if_neg (by omega)]
          exact ho j hj
      · rw [if_neg hv2]
        refine ih (q + 1) m l (by omega) (by omega) (LKB_mono hl (by omega) (fun p hp hw2 hh => ?_)) ho
        have : 8 * W a p + p = 8 * v + q := by omega
        have : W a p = v ∧ p = q := by omega
        rw [this.2] at this
        exact hv2 this.1
theorem X0_sl74 (hP : P ≤ 6) {c_wishes : Nat → Int32} {a : Nat} (ha : a < 8) (l0 : Nat → Int32) {w : Nat → Nat} {m : Nat} (hm : m ≤ 6) :
    ∀ (n i : Nat) (l : Nat → Int32), m ≤ i → i ≤ 6 → 6 - i < n → LKB P w (fun i => l (a * 6 + i)) m 64 → (∀ j, m ≤ j → j < i → l (a * 6 + j) = -1) → (∀ j, (j < a * 6 ∨ a * 6 + 6 ≤ j) → l j = l0 j) →
      ∃ l', LK P w (fun i => l' (a * 6 + i)) ∧ (∀ j, (j < a * 6 ∨ a * 6 + 6 ≤ j) → l' j = l0 j) ∧ f_X0_sortLikes_74 N (nI P) c_wishes n l (nI a) (nI i) = some l' := by
  intro n
  induction n with
  | zero => intro i l h1 h2; omega
  | succ n ih =>
    intro i l hi hi6 hn hl hx ho
    rw [f_X0_sortLikes_74]
    by_cases h : 6 ≤ i
    · simp (disch := omega) only [bd, rdI_n, wrI_n, rdL_n, wrL_n, ix6, ix6', ix7, ix7', ix8, ix8', nI_1, q_6le, if_pos h]
      exact ⟨l, ⟨m, hm, hl, fun j h1 h2 => hx j h1 (by omega)⟩, ho, rfl⟩
    · simp (disch := omega) only [bd, rdI_n, wrI_n, rdL_n, wrL_n, ix6, ix6', ix7, ix7', ix8, ix8', nI_1, q_6le, if_neg h]
      refine ih (i + 1) _ (by omega) (by omega) (by omega) (LKB_cong hl (fun j hj => ?_)) (fun j h1 h2 => ?_) (fun j hj => ?_)
      · unfold upd; rw [if_neg (by omega)]
      · unfold upd
        by_cases e : j = i
        · rw [if_pos (by omega)]
        · rw [if_neg (by omega)]; exact hx j h1 (by omega)
      · unfold upd; rw [if_neg (by omega)]; exact ho j hj
theorem X0_sl4 (hN : 40000 ≤ N) (hP : P ≤ 6) (hW : ∀ a q, W a q ≤ 6) {c_wishes : Nat → Int32} (hw : ∀ a q, a < 8 → q < 6 → c_wishes (a * 6 + q) = nI (W a q)) {a : Nat} (ha : a < 8) (l0 : Nat → Int32) :
    ∀ (n v m : Nat) (l : Nat → Int32), 1 ≤ v → v ≤ 7 → 7 - v < n → LKB P (W a) (fun i => l (a * 6 + i)) m (8 * v) → (∀ j, (j < a * 6 ∨ a * 6 + 6 ≤ j) → l j = l0 j) →
      ∃ l', LK P (W a) (fun i => l' (a * 6 + i)) ∧ (∀ j, (j < a * 6 ∨ a * 6 + 6 ≤ j) → l' j = l0 j) ∧ f_X0_sortLikes_4 N (nI P) c_wishes n l (nI a) (nI m) (nI v) = some l' := by
  intro n
  induction n with
  | zero => intro v m l h1 h2; omega
  | succ n ih =>
    intro v m l hv1 hv7 hn hl ho
    have hmP := LKB_le hl
    rw [f_X0_sortLikes_4]
    by_cases h : 6 < v
    · simp (disch := omega) only [bd, rdI_n, wrI_n, rdL_n, wrL_n, ix6, ix6', ix7, ix7', ix8, ix8', nI_1, q_6lt, if_pos h]
      have hl2 : LKB P (W a) (fun i => l (a * 6 + i)) m 64 := LKB_mono hl (by omega) (fun p hp hw2 hh => by have := hW a p; omega)
      exact X0_sl74 (N := N) hP ha l0 (by omega) N m l (Nat.le_refl _) (by omega) (by omega) hl2 (fun j h1 h2 => by omega) ho
    · simp (disch := omega) only [bd, rdI_n, wrI_n, rdL_n, wrL_n, ix6, ix6', ix7, ix7', ix8, ix8', nI_1, q_6lt, if_neg h]
      obtain ⟨m', l', g1, g2, g3⟩ := X0_sl13 (N := N) hP hW hw ha hv1 (by omega) l0 (f_X0_sortLikes_4 N (nI P) c_wishes n) N 0 m l (by omega) (by omega) hl ho
      rw [show (0 : Int32) = nI 0 from rfl, g3]
      exact ih (v + 1) m' l' (by omega) (by omega) (by omega) g1 g2
theorem X0_sortLikes_ok (hN : 40000 ≤ N) (hP : P ≤ 6) (hW : ∀ a q, W a q ≤ 6) {c_wishes : Nat → Int32} (hw : ∀ a q, a < 8 → q < 6 → c_wishes (a * 6 + q) = nI (W a q)) {a : Nat} (ha : a < 8) (l0 : Nat → Int32) :
    ∃ l', LK P (W a) (fun i => l' (a * 6 + i)) ∧ (∀ j, (j < a * 6 ∨ a * 6 + 6 ≤ j) → l' j = l0 j) ∧ f_X0_sortLikes N (nI P) c_wishes l0 (nI a) = some l' := by
  unfold f_X0_sortLikes
  exact X0_sl4 hN hP hW hw ha l0 N 1 0 l0 (by omega) (by omega) (by omega) ⟨fun _ => 0, fun i hi => absurd hi (Nat.not_lt_zero i), fun i j _ hj => absurd hj (Nat.not_lt_zero j), fun q _ h1 h2 => by omega⟩ (fun _ _ => rfl)
/-- likes of all askers -/
def LikesOk (P : Nat) (W : Nat → Nat → Nat) (likes : Nat → Int32) : Prop := ∀ a, a < 8 → LK P (W a) (fun i => likes (a * 6 + i))
theorem LK_cong {P P' : Nat} {w w' : Nat → Nat} {f : Nat → Int32} (h : LK P w f) (hw : ∀ q, w q = w' q) (h0 : ∀ q, P ≤ q → w q = 0) (hP : P ≤ P') : LK P' w' f := by
  have : w = w' := funext hw
  subst this
  obtain ⟨m, hm, ⟨r, h1, h2, h3⟩, h4⟩ := h
  refine ⟨m, hm, ⟨r, fun i hi => ?_, h2, fun q hq hw hb => ?_⟩, h4⟩
  · obtain ⟨a, b, c, d⟩ := h1 i hi
    exact ⟨a, by omega, c, d⟩
  · refine h3 q ?_ hw hb
    rcases Nat.lt_or_ge q P with z | z
    · exact z
    · have := h0 q z; omega
/-- the best of places with a property: least wish, then least number -/
def bestOf (P : Nat) (w : Nat → Nat) (av : Nat → Prop) (o : Nat) : Prop := match o with
  | 0 => ∀ q, q < P → 0 < w q → ¬ av q
  | q + 1 => q < P ∧ 0 < w q ∧ av q ∧ ∀ p, p < P → 0 < w p → av p → 8 * w q + q ≤ 8 * w p + p
theorem bestOf_one {w : Nat → Nat} {av : Nat → Prop} {o o' : Nat} (hP : P ≤ 6) (h : bestOf P w av o) (h' : bestOf P w av o') : o = o' := by
  cases o with
  | zero =>
    cases o' with
    | zero => rfl
    | succ q => exact absurd h'.2.2.1 (h q h'.1 h'.2.1)
  | succ q =>
    cases o' with
    | zero => exact absurd h.2.2.1 (h' q h.1 h.2.1)
    | succ q' =>
      have h1 := h.2.2.2 q' h'.1 h'.2.1 h'.2.2.1
      have h2 := h'.2.2.2 q h.1 h.2.1 h.2.2.1
      have := h.1
      have := h'.1
      omega
/-- going through likes to the first place with a property -/
theorem LK_walk {w : Nat → Nat} {f : Nat → Int32} (hw : ∀ q, w q ≤ 6) (h : LK P w f) (av : Nat → Prop) {o : Nat} (ho : bestOf P w av o) (hP : P ≤ 6) :
    ∃ m, m ≤ 6 ∧ (∀ i, i < m → ∃ q, q < P ∧ f i = nI q ∧ ¬ av q) ∧ ((m = 6 ∧ o = 0) ∨ (m < 6 ∧ f m = oI o)) := by
  obtain ⟨m, hm, ⟨r, h1, h2, h3⟩, h4⟩ := h
  cases o with
  | zero =>
    refine ⟨m, hm, fun i hi => ⟨r i, (h1 i hi).2.1, (h1 i hi).1, ho (r i) (h1 i hi).2.1 (h1 i hi).2.2.1⟩, ?_⟩
    rcases Nat.lt_or_ge m 6 with z | z
    · exact Or.inr ⟨z, by rw [h4 m (Nat.le_refl _) z, oI_0]⟩
    · exact Or.inl ⟨by omega, rfl⟩
  | succ q =>
    obtain ⟨o1, o2, o3, o4⟩ := ho
    have hb : 8 * w q + q < 64 := by have := hw q; omega
    obtain ⟨i, hi, hr⟩ := h3 q o1 o2 hb
    refine ⟨i, by omega, fun j hj => ⟨r j, (h1 j (by omega)).2.1, (h1 j (by omega)).1, fun z => ?_⟩, Or.inr ⟨by omega, by rw [oI_s, (h1 i hi).1, hr]⟩⟩
    have a1 := h2 j i hj hi
    have a2 := o4 (r j) (h1 j (by omega)).2.1 (h1 j (by omega)).2.2.1 z
    rw [hr] at a1
    omega
end X0B
