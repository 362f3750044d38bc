/-! REACH: how many rise and fall, over all givings -/
section REACH
variable {N K P : Nat} {S : Nat → Nat} {W T : Nat → Nat → Nat} {m : Nat → Nat}
def Gv (K P : Nat) (S : Nat → Nat) (W : Nat → Nat → Nat) (t : Nat → Nat) : Prop := (∀ a, a < K → t a ≤ P) ∧ (∀ a q, a < K → t a = q + 1 → 0 < W a q) ∧ ∀ q, q < P → had K t (q + 1) ≤ S q
def AtG (K P : Nat) (S : Nat → Nat) (W : Nat → Nat → Nat) (m : Nat → Nat) (x y : Nat) : Prop := ∃ t, Gv K P S W t ∧ rise K W t m = x ∧ rise K W m t = y
/-- reached after a askers: y fell, x rose, the seats' state is s -/
def RC (P : Nat) (S : Nat → Nat) (W : Nat → Nat → Nat) (m : Nat → Nat) : Nat → Nat → Nat → Nat → Prop
  | 0, y, s, x => y = 0 ∧ s = wgt S P - 1 ∧ x = 0
  | a + 1, y, s, x => ∃ y0 s0 x0 o, RC P S W m a y0 s0 x0 ∧ o ≤ P ∧ tkS S W a o s0 = some s ∧ x = x0 + (if wo W a o < wo W a (m a) then 1 else 0) ∧ y = y0 + (if wo W a (m a) < wo W a o then 1 else 0)
theorem RC_le : ∀ (a y s x : Nat), RC P S W m a y s x → y ≤ a ∧ x ≤ a ∧ s < wgt S P
  | 0, y, s, x, h => by
    obtain ⟨h1, h2, h3⟩ := h
    have := wgt_pos S P
    omega
  | a + 1, y, s, x, h => by
    obtain ⟨y0, s0, x0, o, h1, h2, h3, h4, h5⟩ := h
    obtain ⟨i1, i2, i3⟩ := RC_le a y0 s0 x0 h1
    have := tkS_le h3
    refine ⟨?_, ?_, by omega⟩
    · rw [h5]; split <;> omega
    · rw [h4]; split <;> omega
theorem rise_succ (a : Nat) (t m : Nat → Nat) : rise (a + 1) W t m = rise a W t m + (if wo W a (t a) < wo W a (m a) then 1 else 0) := by
  show rise a W t m + (if decide (wo W a (t a) < wo W a (m a)) = true then 1 else 0) = _
  by_cases h : wo W a (t a) < wo W a (m a) <;> simp [h]
theorem rise_cong {a : Nat} {t t' m m' : Nat → Nat} (h : ∀ b, b < a → t b = t' b) (h' : ∀ b, b < a → m b = m' b) : rise a W t m = rise a W t' m' := fb_ct_cong (fun b hb => by rw [h b hb, h' b hb])
theorem had_succ (a : Nat) (t : Nat → Nat) (o : Nat) : had (a + 1) t o = had a t o + (if t a = o then 1 else 0) := by
  show had a t o + (if decide (t a = o) = true then 1 else 0) = _
  by_cases h : t a = o <;> simp [h]
theorem had_cong {a : Nat} {t t' : Nat → Nat} (h : ∀ b, b < a → t b = t' b) (o : Nat) : had a t o = had a t' o := fb_ct_cong (fun b hb => by rw [h b hb])
theorem RC_sound : ∀ (a y s x : Nat), RC P S W m a y s x → ∃ t, (∀ b, b < a → t b ≤ P) ∧ (∀ b q, b < a → t b = q + 1 → 0 < W b q) ∧ (∀ q, q < P → dig S s q + had a t (q + 1) = S q) ∧ rise a W t m = x ∧ rise a W m t = y
  | 0, y, s, x, h => by
    obtain ⟨h1, h2, h3⟩ := h
    subst h1; subst h2; subst h3
    exact ⟨fun _ => 0, fun b hb => absurd hb (Nat.not_lt_zero _), fun b q hb => absurd hb (Nat.not_lt_zero _), fun q hq => by rw [dig_full S hq]; rfl, rfl, rfl⟩
  | a + 1, y, s, x, h => by
    obtain ⟨y0, s0, x0, o, h1, h2, h3, h4, h5⟩ := h
    obtain ⟨t, t1, t2, t3, t4, t5⟩ := RC_sound a y0 s0 x0 h1
    have hc : ∀ b, b < a → upN t a o b = t b := fun b hb => upN_n (by omega)
    refine ⟨upN t a o, fun b hb => ?_, fun b q hb hq => ?_, fun q hq => ?_, ?_, ?_⟩
    · by_cases e : b = a
      · rw [e, upN_s]; exact h2
      · rw [hc b (by omega)]; exact t1 b (by omega)
    · by_cases e : b = a
      · rw [e, upN_s] at hq
        rw [hq] at h3
        unfold tkS at h3
        simp only at h3
        split at h3
        · rename_i z; rw [e]; exact z.1
        · cases h3
      · rw [hc b (by omega)] at hq; exact t2 b q (by omega) hq
    · rw [had_succ, upN_s, had_cong hc]
      have := t3 q hq
      unfold tkS at h3
      split at h3
      · cases h3
        rw [if_neg (by omega)]; exact this
      · rename_i p
        split at h3
        · rename_i z
          cases h3
          rw [dig_sub z.2]
          unfold dec
          by_cases e : q = p
          · rw [if_pos e, if_pos (by omega)]
            have := z.2
            rw [← e] at this
            omega
          · rw [if_neg e, if_neg (by omega)]; exact this
        · cases h3
    · rw [rise_succ, upN_s, rise_cong hc (fun _ _ => rfl), t4, h4]
    · rw [rise_succ, upN_s, rise_cong (fun _ _ => rfl) hc, t5, h5]
theorem RC_complete {t : Nat → Nat} (ht : Gv K P S W t) : ∀ a, a ≤ K → ∃ s, RC P S W m a (rise a W m t) s (rise a W t m) ∧ ∀ q, q < P → dig S s q + had a t (q + 1) = S q
  | 0, _ => ⟨wgt S P - 1, ⟨rfl, rfl, rfl⟩, fun q hq => by rw [dig_full S hq]; rfl⟩
  | a + 1, ha => by
    obtain ⟨s, s1, s2⟩ := RC_complete ht a (by omega)
    obtain ⟨g1, g2, g3⟩ := ht
    cases hta : t a with
    | zero =>
      refine ⟨s, ⟨_, s, _, 0, s1, Nat.zero_le _, rfl, by rw [rise_succ, hta], by rw [rise_succ, hta]⟩, fun q hq => ?_⟩
      rw [had_succ, hta, if_neg (by omega)]
      exact s2 q hq
    | succ p =>
      have hp : p < P := by have := g1 a (by omega); omega
      have hle : had (a + 1) t (p + 1) ≤ had K t (p + 1) := fb_ct_mono _ ha
      have hd : 0 < dig S s p := by
        have := s2 p hp
        have := g3 p hp
        rw [had_succ, hta, if_pos rfl] at hle
        omega
      have hw := g2 a p (by omega) hta
      refine ⟨s - wgt S p, ⟨_, s, _, p + 1, s1, by omega, by unfold tkS; simp only; rw [if_pos ⟨hw, hd⟩], by rw [rise_succ, hta], by rw [rise_succ, hta]⟩, fun q hq => ?_⟩
      rw [dig_sub hd, had_succ, hta]
      unfold dec
      have := s2 q hq
      by_cases e : q = p
      · rw [if_pos e, if_pos (by omega)]
        rw [← e] at hd
        omega
      · rw [if_neg e, if_neg (by omega)]; exact this
theorem RC_at {x y : Nat} : AtG K P S W m x y ↔ ∃ s, RC P S W m K y s x := by
  constructor
  · rintro ⟨t, t1, t2, t3⟩
    obtain ⟨s, s1, s2⟩ := RC_complete (m := m) t1 K (Nat.le_refl _)
    rw [t2, t3] at s1
    exact ⟨s, s1⟩
  · rintro ⟨s, h⟩
    obtain ⟨t, t1, t2, t3, t4, t5⟩ := RC_sound K y s x h
    exact ⟨t, ⟨t1, t2, fun q hq => by have := t3 q hq; omega⟩, t4, t5⟩
theorem AtG_le {x y : Nat} (h : AtG K P S W m x y) : x ≤ K ∧ y ≤ K ∧ x + y ≤ K := by
  obtain ⟨t, _, h2, h3⟩ := h
  have e : ∀ n, rise n W t m + rise n W m t ≤ n := by
    intro n
    induction n with
    | zero => exact Nat.le_refl _
    | succ n ih =>
      rw [rise_succ, rise_succ]
      by_cases h1 : wo W n (t n) < wo W n (m n)
      · rw [if_pos h1, if_neg (by omega)]; omega
      · rw [if_neg h1]; split <;> omega
  have := e K
  omega
/-- one best ratio -/
def BestR (K P : Nat) (S : Nat → Nat) (W : Nat → Nat → Nat) (m : Nat → Nat) (A B : Nat) : Prop :=
  (∀ x y, AtG K P S W m x y → x * B ≤ A * y) ∧ ((A = 0 ∧ B = 1) ∨ (A = 1 ∧ B = 0 ∧ ∃ x, 0 < x ∧ AtG K P S W m x 0) ∨ (0 < A ∧ 0 < B ∧ AtG K P S W m A B))
theorem gcd_eq {a b c d : Nat} (ha : 0 < a) (hb : 0 < b) (hc : 0 < c) (hd : 0 < d) (h : a * d = c * b) : a / Nat.gcd a b = c / Nat.gcd c d ∧ b / Nat.gcd a b = d / Nat.gcd c d := by
  have hg := Nat.gcd_pos_of_pos_left b ha
  have hg' := Nat.gcd_pos_of_pos_left d hc
  obtain ⟨a', ea⟩ := Nat.gcd_dvd_left a b
  obtain ⟨b', eb⟩ := Nat.gcd_dvd_right a b
  obtain ⟨c', ec⟩ := Nat.gcd_dvd_left c d
  obtain ⟨d', ed⟩ := Nat.gcd_dvd_right c d
  have e1 : a / Nat.gcd a b = a' := Nat.div_eq_of_eq_mul_right hg ea
  have e2 : b / Nat.gcd a b = b' := Nat.div_eq_of_eq_mul_right hg eb
  have e3 : c / Nat.gcd c d = c' := Nat.div_eq_of_eq_mul_right hg' ec
  have e4 : d / Nat.gcd c d = d' := Nat.div_eq_of_eq_mul_right hg' ed
  have co1 : Nat.Coprime a' b' := by have := Nat.coprime_div_gcd_div_gcd hg; rwa [e1, e2] at this
  have co2 : Nat.Coprime c' d' := by have := Nat.coprime_div_gcd_div_gcd hg'; rwa [e3, e4] at this
  rw [e1, e2, e3, e4]
  generalize Nat.gcd a b = u at *
  generalize Nat.gcd c d = v at *
  have hm : a' * d' = c' * b' := by
    have h1 : (u * v) * (a' * d') = (u * v) * (c' * b') := by
      calc (u * v) * (a' * d') = (u * a') * (v * d') := Nat.mul_mul_mul_comm u v a' d'
        _ = a * d := by rw [← ea, ← ed]
        _ = c * b := h
        _ = (v * c') * (u * b') := by rw [← ec, ← eb]
        _ = (v * u) * (c' * b') := Nat.mul_mul_mul_comm v c' u b'
        _ = (u * v) * (c' * b') := by rw [Nat.mul_comm v u]
    exact Nat.eq_of_mul_eq_mul_left (Nat.mul_pos hg hg') h1
  have d1 : a' ∣ c' := co1.dvd_of_dvd_mul_right ⟨d', hm.symm⟩
  have d2 : c' ∣ a' := co2.dvd_of_dvd_mul_right ⟨b', hm⟩
  have hac : a' = c' := Nat.dvd_antisymm d1 d2
  refine ⟨hac, ?_⟩
  have ha' : 0 < a' := by
    rcases Nat.eq_zero_or_pos a' with z | z
    · rw [z, Nat.mul_zero] at ea; omega
    · exact z
  rw [← hac] at hm
  exact (Nat.eq_of_mul_eq_mul_left ha' hm).symm
theorem BestR_one {A B A' B' : Nat} (h : BestR K P S W m A B) (h' : BestR K P S W m A' B') : A / Nat.gcd A B = A' / Nat.gcd A' B' ∧ B / Nat.gcd A B = B' / Nat.gcd A' B' := by
  obtain ⟨h1, h2⟩ := h
  obtain ⟨g1, g2⟩ := h'
  have key : ∀ {A B A' B' : Nat}, (∀ x y, AtG K P S W m x y → x * B' ≤ A' * y) → (∃ x y, 0 < x ∧ AtG K P S W m x y) → A' = 0 ∧ B' = 1 → False := by
    rintro A B A' B' g ⟨x, y, hx, hxy⟩ ⟨e1, e2⟩
    have := g x y hxy
    rw [e1, e2, Nat.zero_mul, Nat.mul_one] at this
    omega
  rcases h2 with z | ⟨a1, a2, x, hx, hx0⟩ | ⟨a1, a2, a3⟩
  · rcases g2 with z' | ⟨b1, b2, x', hx', hx0'⟩ | ⟨b1, b2, b3⟩
    · rw [z.1, z.2, z'.1, z'.2]; exact ⟨rfl, rfl⟩
    · exact (key (A := 0) (B := 0) h1 ⟨_, _, hx', hx0'⟩ z).elim
    · exact (key (A := 0) (B := 0) h1 ⟨_, _, b1, b3⟩ z).elim
  · rcases g2 with z' | ⟨b1, b2, x', hx', hx0'⟩ | ⟨b1, b2, b3⟩
    · exact (key (A := 0) (B := 0) g1 ⟨_, _, hx, hx0⟩ z').elim
    · rw [a1, a2, b1, b2]; exact ⟨rfl, rfl⟩
    · have := g1 x 0 hx0
      rw [Nat.mul_zero] at this
      have := Nat.mul_pos hx b2
      omega
  · rcases g2 with z' | ⟨b1, b2, x', hx', hx0'⟩ | ⟨b1, b2, b3⟩
    · exact (key (A := 0) (B := 0) g1 ⟨_, _, a1, a3⟩ z').elim
    · have := h1 x' 0 hx0'
      rw [Nat.mul_zero] at this
      have := Nat.mul_pos hx' a2
      omega
    · have e1 := g1 A B a3
      have e2 := h1 A' B' b3
      exact gcd_eq a1 a2 b1 b2 (by omega)
end REACH
