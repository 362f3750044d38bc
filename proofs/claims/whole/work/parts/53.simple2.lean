/-! seats, wish, worth -/
section SIMPLE2
variable {N K P : Nat} {S : Nat → Nat} {W T : Nat → Nat → Nat}
theorem hu_n1 : ∀ a : Nat, a < 8 → (nI a = (-1 : Int32)) = (a = 9) := fun a ha => (q_n1 (by omega)).trans (propext ⟨fun h => h.elim, fun h => by omega⟩)
theorem hu_nI {x : Nat} (hx : x < 8) : ∀ a : Nat, a < 8 → (nI a = nI x) = (a = x) := fun a ha => q_eq (by omega) (by omega)
def ovB (K : Nat) (T : Nat → Nat → Nat) (q v g : Nat) : Bool := decide (0 < fb_ct (fun j => decide (g ≤ j) && decide (v < had K (T j) (q + 1))) 4)
theorem ovB_iff {q v g : Nat} : ovB K T q v g = true ↔ ∃ j, g ≤ j ∧ j < 4 ∧ v < had K (T j) (q + 1) := by
  unfold ovB
  rw [decide_eq_true_eq, fb_ct_pos]
  constructor
  · rintro ⟨j, h1, h2⟩
    simp only [Bool.and_eq_true, decide_eq_true_eq] at h2
    exact ⟨j, h2.1, h1, h2.2⟩
  · rintro ⟨j, h1, h2, h3⟩
    exact ⟨j, h2, by simp only [Bool.and_eq_true, decide_eq_true_eq]; exact ⟨h1, h3⟩⟩
theorem X7_seats_23_ok (hG : GD K P S W T) (hN : 40000 ≤ N) {told seats : Nat → Int32} (ht : ∀ g a, g < 4 → a < 8 → told (g * 8 + a) = oI (T g a)) (hs : ∀ q, q < 6 → seats q = nI (S q)) {q v : Nat} (hq : q < P) (hv : v ≤ 3) {age : Int32} :
    ∀ (n g : Nat), g ≤ 4 → 4 - g < n → f_X7_seats_23 N (nI K) (nI P) told n age seats (nI q) (nI v) (nI g) = (if ovB K T q v g = true then some (-3, age, seats) else some (nI (S q), age + 1, upd seats q (nI v))) := by
  have hP := hG.P6
  have hK := hG.K8
  intro n
  induction n with
  | zero => intro g h1 h2; omega
  | succ n ih =>
    intro g hg hn
    rw [f_X7_seats_23]
    by_cases h : 4 ≤ g
    · have e : ¬ ovB K T q v g = true := fun z => by obtain ⟨j, h1, h2, _⟩ := ovB_iff.mp z; omega
      rw [if_neg e]
      unfold f_X0_setSeats
      simp (disch := omega) only [bd, rdI_n, wrI_n, rdL_n, wrL_n, ix6, ix6', ix7, ix7', ix8, ix8', nI_1, q_4le, if_pos h, hs q (show q < 6 by omega)]
    · have hh : had K (T g) (q + 1) ≤ 8 := Nat.le_trans (fb_ct_le _ _) hK
      simp (disch := omega) only [bd, rdI_n, wrI_n, rdL_n, wrL_n, ix6, ix6', ix7, ix7', ix8, ix8', nI_1, q_4le, if_neg h, X0_holders_ok ht hG.T6 hK hN (show g < 4 by omega) (show q < 6 by omega) hu_n1, hadX_9 _ _ hK, q_le]
      by_cases h2 : had K (T g) (q + 1) ≤ v
      · rw [if_pos h2, ih (g + 1) (by omega) (by omega)]
        by_cases e : ovB K T q v (g + 1) = true
        · obtain ⟨j, j1, j2, j3⟩ := ovB_iff.mp e
          rw [if_pos e, if_pos (ovB_iff.mpr ⟨j, by omega, j2, j3⟩)]
        · have e2 : ¬ ovB K T q v g = true := by
            intro z
            obtain ⟨j, j1, j2, j3⟩ := ovB_iff.mp z
            refine e (ovB_iff.mpr ⟨j, ?_, j2, j3⟩)
            rcases Nat.eq_or_lt_of_le j1 with y | y
            · subst y; omega
            · exact y
          rw [if_neg e, if_neg e2]
      · rw [if_neg h2, if_pos (ovB_iff.mpr ⟨g, Nat.le_refl _, by omega, by omega⟩)]
theorem X8_seats_22_ok (hG : GD K P S W T) (hN : 40000 ≤ N) {told seats : Nat → Int32} (ht : ∀ g a, g < 4 → a < 8 → told (g * 8 + a) = nI (T g a)) (hs : ∀ q, q < 6 → seats q = nI (S q)) {q v : Nat} (hq : q < P) (hv : v ≤ 3) :
    ∀ (n g : Nat), g ≤ 4 → 4 - g < n → f_X8_seats_22 N (nI K) (nI P) told n seats (nI q) (nI v) (nI g) = (if ovB K T q v g = true then some (-3, seats) else some (nI (S q), upd seats q (nI v))) := by
  have hP := hG.P6
  have hK := hG.K8
  intro n
  induction n with
  | zero => intro g h1 h2; omega
  | succ n ih =>
    intro g hg hn
    rw [f_X8_seats_22]
    by_cases h : 4 ≤ g
    · have e : ¬ ovB K T q v g = true := fun z => by obtain ⟨j, h1, h2, _⟩ := ovB_iff.mp z; omega
      rw [if_neg e]
      simp (disch := omega) only [bd, rdI_n, wrI_n, rdL_n, wrL_n, ix6, ix6', ix7, ix7', ix8, ix8', nI_1, q_4le, if_pos h, hs q (show q < 6 by omega)]
    · have hh : had K (T g) (q + 1) ≤ 8 := Nat.le_trans (fb_ct_le _ _) hK
      simp (disch := omega) only [bd, rdI_n, wrI_n, rdL_n, wrL_n, ix6, ix6', ix7, ix7', ix8, ix8', nI_1, q_4le, if_neg h, X8_had_ok ht hG.T6 hK hN (show g < 4 by omega) (show q < 6 by omega), q_le]
      by_cases h2 : had K (T g) (q + 1) ≤ v
      · rw [if_pos h2, ih (g + 1) (by omega) (by omega)]
        by_cases e : ovB K T q v (g + 1) = true
        · obtain ⟨j, j1, j2, j3⟩ := ovB_iff.mp e
          rw [if_pos e, if_pos (ovB_iff.mpr ⟨j, by omega, j2, j3⟩)]
        · have e2 : ¬ ovB K T q v g = true := by
            intro z
            obtain ⟨j, j1, j2, j3⟩ := ovB_iff.mp z
            refine e (ovB_iff.mpr ⟨j, ?_, j2, j3⟩)
            rcases Nat.eq_or_lt_of_le j1 with y | y
            · subst y; omega
            · exact y
          rw [if_neg e, if_neg e2]
      · rw [if_neg h2, if_pos (ovB_iff.mpr ⟨g, Nat.le_refl _, by omega, by omega⟩)]
theorem isM_ex {n : Nat} {x : Int32} (h : isM n x) : ∃ j, j < n ∧ x = nI j := isN_ex h
theorem call_seats (hG : GD K P S W T) (hN : 40000 ≤ N) {x y : Int32} : ∀ {ca cp ma mp cage : Int32} {cs cl ct cw ms mw mt : Nat → Int32}, SB K P S W T ca cp cs cl ct cw → RepM K P S W T ma mp ms mw mt →
    ∃ r S' cs' ms' b, f_X7_seats N ca cp ct cage cs x y = some (r, cage + b, cs') ∧ f_X8_seats N ma mp mt ms x y = some (r, ms') ∧ GD K P S' W T ∧ SB K P S' W T ca cp cs' cl ct cw ∧ RepM K P S' W T ma mp ms' mw mt ∧ (b = 1 ∨ b = 0 ∧ S' = S) := by
  intro ca cp ma mp cage cs cl ct cw ms mw mt hB hM
  have hB0 := hB
  have hM0 := hM
  obtain ⟨⟨e1, e2, e3, e4, e5⟩, hl⟩ := hB
  obtain ⟨m1, m2, m3, m4, m5⟩ := hM
  have hP := hG.P6
  have same : ∀ r, (some (r, cage, cs) : Option (Int32 × Int32 × (Nat → Int32))) = some (r, cage + 0, cs) := fun r => by rw [Int32.add_zero]
  subst e1; subst m1; subst e2; subst m2
  unfold f_X7_seats f_X8_seats
  rw [X0_isPlace_ok hP, X8_isPlace_ok hP, bd, bd]
  by_cases hx : isM P x
  · rw [if_pos hx, if_neg one_ne, if_neg one_ne, X7_isSeats_ok, X8_in_ok, bd, bd, ti1, ti3]
    by_cases hy : 1 ≤ y.toInt ∧ y.toInt ≤ 3
    · rw [if_pos hy, if_neg one_ne, if_neg one_ne]
      obtain ⟨q, hq, rfl⟩ := isM_ex hx
      obtain ⟨v, hv, rfl⟩ := small_ex (x := y) (n := 3) (by omega) hy.2
      have hv1 : 1 ≤ v := by
        have := hy.1
        rw [nI_toInt (by omega)] at this; omega
      rw [show (0 : Int32) = nI 0 from rfl, X7_seats_23_ok hG hN e5 e3 hq hv N 0 (by omega) (by omega), X8_seats_22_ok hG hN m5 m3 hq hv N 0 (by omega) (by omega)]
      by_cases e : ovB K T q v 0 = true
      · rw [if_pos e, if_pos e]
        exact ⟨_, S, _, _, 0, same _, rfl, hG, hB0, hM0, Or.inr ⟨rfl, rfl⟩⟩
      · rw [if_neg e, if_neg e]
        refine ⟨_, upS S q v, _, _, 1, rfl, rfl, ⟨⟨hG.K8, hG.P6, fun p hp => ?_, fun p hp => ?_, hG.W6, hG.WK, hG.WP, hG.TP, hG.TK, hG.TW, fun g p hp => ?_⟩, hG.T4⟩, ⟨⟨rfl, rfl, repS e3 q v, e4, e5⟩, hl⟩, ⟨rfl, rfl, repS m3 q v, m4, m5⟩, Or.inl rfl⟩
        · unfold upS
          split
          · omega
          · exact hG.1.2.2.1 p hp
        · unfold upS
          rw [if_neg (by omega)]
          exact hG.S0 hp
        · unfold upS
          split
          · rename_i hpq
            subst hpq
            rcases Nat.lt_or_ge g 4 with z | z
            · exact Nat.le_of_not_lt (fun y => e (ovB_iff.mpr ⟨g, Nat.zero_le _, z, y⟩))
            · have : had K (T g) (p + 1) = 0 := fb_ct_zero.mpr (fun a ha => by rw [hG.T4 g a z]; simp)
              omega
          · exact hG.TS g p hp
    · rw [if_neg hy, if_pos rfl, if_pos rfl]
      exact ⟨_, S, _, _, 0, same _, rfl, hG, hB0, hM0, Or.inr ⟨rfl, rfl⟩⟩
  · rw [if_neg hx, if_pos rfl, if_pos rfl]
    exact ⟨_, S, _, _, 0, same _, rfl, hG, hB0, hM0, Or.inr ⟨rfl, rfl⟩⟩
/-! wish -/
def upW (W : Nat → Nat → Nat) (a q v : Nat) : Nat → Nat → Nat := fun a' q' => if a' = a ∧ q' = q then v else W a' q'
def clT (T : Nat → Nat → Nat) (a q : Nat) : Nat → Nat → Nat := fun g a' => if a' = a ∧ T g a' = q + 1 then 0 else T g a'
theorem repW {wishes : Nat → Int32} (hw : ∀ a q, a < 8 → q < 6 → wishes (a * 6 + q) = nI (W a q)) {a q v : Nat} (hq : q < 6) : ∀ a' q', a' < 8 → q' < 6 → upd wishes (a * 6 + q) (nI v) (a' * 6 + q') = nI (upW W a q v a' q') := by
  intro a' q' ha' hq'
  unfold upd upW
  by_cases h : a' = a ∧ q' = q
  · rw [if_pos h, if_pos (by rw [h.1, h.2])]
  · rw [if_neg h, if_neg (by omega)]
    exact hw a' q' ha' hq'
theorem X0_takeBack_2_ok {a q : Nat} (ha : a < 8) (hq : q < 6) (hT : ∀ g a, T g a ≤ 6) :
    ∀ (n g : Nat) (told : Nat → Int32), g ≤ 4 → 4 - g < n → (∀ g' a', g' < 4 → a' < 8 → told (g' * 8 + a') = oI (if g' < g then clT T a q g' a' else T g' a')) →
      ∃ told', f_X0_takeBack_2 N n told (nI a) (nI q) (nI g) = some told' ∧ ∀ g' a', g' < 4 → a' < 8 → told' (g' * 8 + a') = oI (clT T a q g' a') := by
  intro n
  induction n with
  | zero => intro g told h1 h2; omega
  | succ n ih =>
    intro g told hg hn ht
    rw [f_X0_takeBack_2]
    by_cases h : 4 ≤ g
    · simp (disch := omega) only [bd, rdI_n, wrI_n, rdL_n, wrL_n, ix6, ix6', ix7, ix7', ix8, ix8', nI_1, q_4le, if_pos h]
      refine ⟨told, rfl, fun g' a' h1 h2 => ?_⟩
      rw [ht g' a' h1 h2, if_pos (by omega)]
    · have h6 := hT g a
      have e := ht g a (by omega) ha
      rw [if_neg (by omega)] at e
      simp (disch := omega) only [bd, rdI_n, wrI_n, rdL_n, wrL_n, ix6, ix6', ix7, ix7', ix8, ix8', nI_1, q_4le, if_neg h, e, q_on]
      by_cases hq2 : T g a = q + 1
      · rw [if_pos hq2]
        refine ih (g + 1) _ (by omega) (by omega) (fun g' a' h1 h2 => ?_)
        unfold upd
        by_cases e2 : g' = g ∧ a' = a
        · rw [if_pos (by rw [e2.1, e2.2]), if_pos (by omega), e2.1, e2.2]
          unfold clT
          rw [if_pos ⟨rfl, hq2⟩]; rfl
        · rw [if_neg (by omega), ht g' a' h1 h2]
          by_cases e3 : g' < g
          · rw [if_pos e3, if_pos (by omega)]
          · rw [if_neg e3]
            by_cases e4 : g' < g + 1
            · rw [if_pos e4]
              unfold clT
              rw [if_neg (fun z => e2 ⟨by omega, z.1⟩)]
            · rw [if_neg e4]
      · rw [if_neg hq2]
        refine ih (g + 1) _ (by omega) (by omega) (fun g' a' h1 h2 => ?_)
        rw [ht g' a' h1 h2]
        by_cases e3 : g' < g
        · rw [if_pos e3, if_pos (by omega)]
        · rw [if_neg e3]
          by_cases e4 : g' < g + 1
          · rw [if_pos e4]
            unfold clT
            rw [if_neg (fun z => hq2 (by rw [← z.1, show g = g' by omega]; exact z.2))]
          · rw [if_neg e4]
theorem X8_wish_57_ok {a q v : Nat} (ha : a < 8) (hq : q < 6) (hv : v ≤ 6) (hT : ∀ g a, T g a ≤ 6) {wish : Nat → Int32} {was : Int32} :
    ∀ (n g : Nat) (told : Nat → Int32), g ≤ 4 → 4 - g < n → (∀ g' a', g' < 4 → a' < 8 → told (g' * 8 + a') = nI (if g' < g ∧ v = 0 then clT T a q g' a' else T g' a')) →
      ∃ told', f_X8_wish_57 N (nI K) (nI P) n told wish (nI a) (nI q) (nI v) was (nI g) = some (was, told', wish) ∧ ∀ g' a', g' < 4 → a' < 8 → told' (g' * 8 + a') = nI (if v = 0 then clT T a q g' a' else T g' a') := by
  intro n
  induction n with
  | zero => intro g told h1 h2; omega
  | succ n ih =>
    intro g told hg hn ht
    rw [f_X8_wish_57]
    by_cases h : 4 ≤ g
    · simp (disch := omega) only [bd, rdI_n, wrI_n, rdL_n, wrL_n, ix6, ix6', ix7, ix7', ix8, ix8', nI_1, q_4le, if_pos h]
      refine ⟨told, rfl, fun g' a' h1 h2 => ?_⟩
      rw [ht g' a' h1 h2]
      by_cases e : v = 0
      · rw [if_pos e, if_pos ⟨by omega, e⟩]
      · rw [if_neg e, if_neg (fun z => e z.2)]
    · have h6 := hT g a
      have e := ht g a (by omega) ha
      rw [if_neg (by omega)] at e
      simp (disch := omega) only [bd, rdI_n, wrI_n, rdL_n, wrL_n, ix6, ix6', ix7, ix7', ix8, ix8', nI_1, q_4le, if_neg h, q_eq0]
      by_cases hv0 : v = 0
      · rw [if_pos hv0]
        unfold f_X8_wish_112
        simp (disch := omega) only [bd, rdI_n, wrI_n, rdL_n, wrL_n, ix6, ix6', ix7, ix7', ix8, ix8', nI_1, e, q_eq]
        by_cases hq2 : T g a = q + 1
        · rw [if_pos hq2]
          refine ih (g + 1) _ (by omega) (by omega) (fun g' a' h1 h2 => ?_)
          unfold upd
          by_cases e2 : g' = g ∧ a' = a
          · rw [if_pos (by rw [e2.1, e2.2]), if_pos ⟨by omega, hv0⟩, e2.1, e2.2]
            unfold clT
            rw [if_pos ⟨rfl, hq2⟩]; rfl
          · rw [if_neg (by omega), ht g' a' h1 h2]
            by_cases e3 : g' < g
            · rw [if_pos ⟨e3, hv0⟩, if_pos ⟨by omega, hv0⟩]
            · rw [if_neg (fun z => e3 z.1)]
              by_cases e4 : g' < g + 1
              · rw [if_pos ⟨e4, hv0⟩]
                unfold clT
                rw [if_neg (fun z => e2 ⟨by omega, z.1⟩)]
              · rw [if_neg (fun z => e4 z.1)]
        · rw [if_neg hq2]
          refine ih (g + 1) _ (by omega) (by omega) (fun g' a' h1 h2 => ?_)
          unfold upd
          by_cases e2 : g' = g ∧ a' = a
          · rw [if_pos (by rw [e2.1, e2.2]), if_pos ⟨by omega, hv0⟩]
            unfold clT
            rw [e2.1, e2.2, if_neg (fun z => hq2 z.2)]
          · rw [if_neg (by omega), ht g' a' h1 h2]
            by_cases e3 : g' < g
            · rw [if_pos ⟨e3, hv0⟩, if_pos ⟨by omega, hv0⟩]
            · rw [if_neg (fun z => e3 z.1)]
              by_cases e4 : g' < g + 1
              · rw [if_pos ⟨e4, hv0⟩]
                unfold clT
                rw [if_neg (fun z => e2 ⟨by omega, z.1⟩)]
              · rw [if_neg (fun z => e4 z.1)]
      · rw [if_neg hv0]
        refine ⟨told, rfl, fun g' a' h1 h2 => ?_⟩
        rw [ht g' a' h1 h2, if_neg (fun z => hv0 z.2), if_neg hv0]
theorem GD_wish (hG : GD K P S W T) {a q v : Nat} (ha : a < K) (hq : q < P) (hv : v ≤ 6) : GD K P S (upW W a q v) (if v = 0 then clT T a q else T) := by
  have hcl : ∀ g a', (if v = 0 then clT T a q else T) g a' = T g a' ∨ (if v = 0 then clT T a q else T) g a' = 0 := by
    intro g a'
    split
    · unfold clT
      split
      · exact Or.inr rfl
      · exact Or.inl rfl
    · exact Or.inl rfl
  refine ⟨⟨hG.K8, hG.P6, hG.1.2.2.1, hG.1.2.2.2.1, fun a' q' => ?_, fun a' q' h => ?_, fun a' q' h => ?_, fun g a' => ?_, fun g a' h => ?_, fun g a' q' h => ?_, fun g q' h => ?_⟩, fun g a' h => ?_⟩
  · unfold upW; split
    · exact hv
    · exact hG.W6 a' q'
  · unfold upW; rw [if_neg (by omega)]; exact hG.WK a' q' h
  · unfold upW; rw [if_neg (by omega)]; exact hG.WP a' q' h
  · rcases hcl g a' with z | z
    · rw [z]; exact hG.TP g a'
    · rw [z]; exact Nat.zero_le _
  · rcases hcl g a' with z | z
    · rw [z]; exact hG.TK g a' h
    · exact z
  · unfold upW
    by_cases e : a' = a ∧ q' = q
    · rw [if_pos e]
      by_cases hv0 : v = 0
      · rw [if_pos hv0] at h
        unfold clT at h
        rw [e.1, e.2] at h
        split at h
        · omega
        · rename_i h2
          exact absurd ⟨rfl, h⟩ h2
      · omega
    · rw [if_neg e]
      rcases hcl g a' with z | z
      · rw [z] at h; exact hG.TW g a' q' h
      · rw [z] at h; omega
  · refine Nat.le_trans (fb_ct_sub (fun k hk hp => ?_)) (hG.TS g q' h)
    rcases hcl g k with z | z
    · rw [z] at hp; exact hp
    · rw [z] at hp; simp at hp
  · rcases hcl g a' with z | z
    · rw [z]; exact hG.T4 g a' h
    · exact z
theorem call_wish (hG : GD K P S W T) (hN : 40000 ≤ N) {x y z : Int32} : ∀ {ca cp ma mp cage : Int32} {cs cl ct cw ms mw mt : Nat → Int32}, SB K P S W T ca cp cs cl ct cw → RepM K P S W T ma mp ms mw mt →
    ∃ r W' T' cl' ct' cw' mw' mt' b, f_X7_wish N ca cp cage cl ct cw x y z = some (r, cage + b, cl', ct', cw') ∧ f_X8_wish N ma mp mt mw x y z = some (r, mt', mw') ∧ GD K P S W' T' ∧ SB K P S W' T' ca cp cs cl' ct' cw' ∧ RepM K P S W' T' ma mp ms mw' mt' ∧ (b = 1 ∨ b = 0 ∧ W' = W ∧ T' = T) := by
  intro ca cp ma mp cage cs cl ct cw ms mw mt hB hM
  have hB0 := hB
  have hM0 := hM
  obtain ⟨⟨e1, e2, e3, e4, e5⟩, hl⟩ := hB
  obtain ⟨m1, m2, m3, m4, m5⟩ := hM
  have hP := hG.P6
  have hK := hG.K8
  have same : ∀ r, (some (r, cage, cl, ct, cw) : Option (Int32 × Int32 × (Nat → Int32) × (Nat → Int32) × (Nat → Int32))) = some (r, cage + 0, cl, ct, cw) := fun r => by rw [Int32.add_zero]
  subst e1; subst m1; subst e2; subst m2
  unfold f_X7_wish f_X8_wish
  rw [X0_isAsker_ok hK, X8_isAsker_ok hK, bd, bd]
  by_cases hx : isM K x
  · rw [if_pos hx, if_neg one_ne, if_neg one_ne, X0_isPlace_ok hP, X8_isPlace_ok hP, bd, bd]
    by_cases hy : isM P y
    · rw [if_pos hy, if_neg one_ne, if_neg one_ne, X8_in_ok, bd, ti0, ti6]
      simp only [Int32.lt_iff_toInt_lt, Int32.le_iff_toInt_le, ti0, ti6]
      by_cases hz : 0 ≤ z.toInt ∧ z.toInt ≤ 6
      · rw [if_neg (by omega), if_pos hz.2, if_pos hz, if_neg one_ne]
        obtain ⟨a, ha, rfl⟩ := isM_ex hx
        obtain ⟨q, hq, rfl⟩ := isM_ex hy
        obtain ⟨v, hv, rfl⟩ := small_ex (x := z) (n := 6) hz.1 hz.2
        have hG' := GD_wish hG ha hq hv
        obtain ⟨l', l1, l2, l3⟩ := X0_sortLikes_ok (N := N) hN hP hG'.W6 (repW e4 (a := a) (q := q) (v := v) (by omega)) (show a < 8 by omega) cl
        have hl' : LikesOk P (upW W a q v) l' := by
          intro a' ha'
          by_cases e : a' = a
          · rw [e]; exact l1
          · obtain ⟨m, hm, hLB, hrest⟩ := hl a' ha'
            have hw : upW W a q v a' = W a' := funext fun q' => by unfold upW; rw [if_neg (fun z => e z.1)]
            rw [hw]
            exact ⟨m, hm, LKB_cong hLB (fun i hi => (l2 _ (by omega)).symm), fun i h1 h2 => (l2 _ (by omega)).trans (hrest i h1 h2)⟩
        obtain ⟨mt', t1, t2⟩ := X8_wish_57_ok (N := N) (K := K) (P := P) (T := T) (wish := upd mw (a * 6 + q) (nI v)) (was := nI (W a q)) (show a < 8 by omega) (show q < 6 by omega) hv hG.T6 N 0 mt (by omega) (by omega) (fun g' a' h1 h2 => by rw [if_neg (by omega)]; exact m5 g' a' h1 h2)
        have h8 : (rdI 48 mw ((6 * nI a) + nI q)).bind (fun t10 => (wrI 48 mw ((6 * nI a) + nI q) (nI v)).bind fun t11 => f_X8_wish_57 N (nI K) (nI P) N mt t11 (nI a) (nI q) (nI v) t10 0) = some (nI (W a q), mt', upd mw (a * 6 + q) (nI v)) := by
          simp (disch := omega) only [bd, rdI_n, wrI_n, rdL_n, wrL_n, ix6, ix6', ix7, ix7', ix8, ix8', nI_1, m4 a q (show a < 8 by omega) (show q < 6 by omega)]
          exact t1
        rw [h8]
        unfold f_X0_setWish
        simp (disch := omega) only [bd, rdI_n, wrI_n, rdL_n, wrL_n, ix6, ix6', ix7, ix7', ix8, ix8', nI_1, e4 a q (show a < 8 by omega) (show q < 6 by omega), l3, q_eq0]
        have hTm : ∀ g a', (if v = 0 then clT T a q else T) g a' = (if v = 0 then clT T a q g a' else T g a') := fun g a' => by split <;> rfl
        have hRM : RepM K P S (upW W a q v) (if v = 0 then clT T a q else T) (nI K) (nI P) ms (upd mw (a * 6 + q) (nI v)) mt' := ⟨rfl, rfl, m3, repW m4 (by omega), fun g' a' h1 h2 => by rw [t2 g' a' h1 h2, hTm]⟩
        by_cases hv0 : v = 0
        · obtain ⟨ct', c1, c2⟩ := X0_takeBack_2_ok (N := N) (T := T) (show a < 8 by omega) (show q < 6 by omega) hG.T6 N 0 ct (by omega) (by omega) (fun g' a' h1 h2 => by rw [if_neg (by omega)]; exact e5 g' a' h1 h2)
          have c3 : f_X0_takeBack N ct (nI a) (nI q) = some ct' := c1
          rw [if_pos hv0, c3, bd, bd]
          exact ⟨_, _, _, _, _, _, _, _, 1, rfl, rfl, hG', ⟨⟨rfl, rfl, e3, repW e4 (by omega), fun g' a' h1 h2 => (c2 g' a' h1 h2).trans (by rw [hTm, if_pos hv0])⟩, hl'⟩, hRM, Or.inl rfl⟩
        · rw [if_neg hv0, bd]
          exact ⟨_, _, _, _, _, _, _, _, 1, rfl, rfl, hG', ⟨⟨rfl, rfl, e3, repW e4 (by omega), fun g' a' h1 h2 => (e5 g' a' h1 h2).trans (by rw [hTm, if_neg hv0])⟩, hl'⟩, hRM, Or.inl rfl⟩
      · rw [if_neg hz, if_pos rfl]
        refine ⟨_, W, T, _, _, _, _, _, 0, ?_, rfl, hG, hB0, hM0, Or.inr ⟨rfl, rfl, rfl⟩⟩
        by_cases h0 : z.toInt < 0
        · rw [if_pos h0]; exact same _
        · rw [if_neg h0, if_neg (by omega)]; exact same _
    · rw [if_neg hy, if_pos rfl, if_pos rfl]
      exact ⟨_, W, T, _, _, _, _, _, 0, same _, rfl, hG, hB0, hM0, Or.inr ⟨rfl, rfl, rfl⟩⟩
  · rw [if_neg hx, if_pos rfl, if_pos rfl]
    exact ⟨_, W, T, _, _, _, _, _, 0, same _, rfl, hG, hB0, hM0, Or.inr ⟨rfl, rfl, rfl⟩⟩
end SIMPLE2
