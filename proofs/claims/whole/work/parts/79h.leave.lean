/-! LEAVE: the reference's ring, and the call -/
section LEAVE
variable {N K P : Nat} {S : Nat → Nat} {W T : Nat → Nat → Nat}
theorem nxB_ok {R : Nat → Nat → Bool} {f k a : Nat} (h : cwB R K f (k + 1) a = true) : nxB R K f k a < K ∧ f < nxB R K f k a ∧ R a (nxB R K f k a) = true ∧ cwB R K f k (nxB R K f k a) = true ∧ ∀ o, f < o → o < nxB R K f k a → (R a o && cwB R K f k o) = false := by
  obtain ⟨b, h1, h2, h3, h4⟩ := cwB_iff.mp h
  have hlt : nxB R K f k a < K := frst_lt (i := b) h2 (by simp [h1, h3, h4])
  obtain ⟨_, p2, p3⟩ := frst_ok (fun o => decide (f < o) && (R a o && cwB R K f k o)) K
  have q2 := p2 hlt
  simp only [Bool.and_eq_true, decide_eq_true_eq] at q2
  refine ⟨hlt, q2.1, q2.2.1, q2.2.2, fun o ho hlt => ?_⟩
  have := p3 o hlt
  simpa [ho] using this
section RING
variable {mt mw : Nat → Int32} {m h f : Nat}
theorem findRing_45_ok (hG : GD K P S W T) (hN : 40000 ≤ N) (m4 : ∀ a q, a < 8 → q < 6 → mw (a * 6 + q) = nI (W a q)) (m5 : ∀ g a, g < 4 → a < 8 → mt (g * 8 + a) = nI (T g a)) (hm : m < 4) (hh : h < 4) (hf : f < K) {s : Nat} (hs : s ≤ 8) {can : Nat → Int32} (hcan : CanIs (wntB W T m h) K f (s + 1) f can) :
    ∀ (n k had a : Nat) (ring : Nat → Int32), k + had = s → 1 ≤ had → k < n → a < K → ring (had - 1) = nI a → cwB (wntB W T m h) K f k a = true →
      ∃ ring', f_X8_findRing_45 N (nI K) mt mw n can ring (nI m) (nI h) (nI s) (nI f) (nI had) = some (nI s, can, ring') ∧ (∀ i, i < had → ring' i = ring i) ∧ ∀ j, j < k → ring' (had + j) = nI (grB (wntB W T m h) K f k a j) := by
  have hK := hG.K8
  intro n
  induction n with
  | zero => intro k had a ring h1 h2 h3; omega
  | succ n ih =>
    intro k had a ring h1 h2 h3 h4 h5 h6
    rw [f_X8_findRing_45]
    cases k with
    | zero =>
      rw [if_pos (nI_le (by omega) (by omega))]
      exact ⟨ring, rfl, fun _ _ => rfl, fun j hj => absurd hj (Nat.not_lt_zero j)⟩
    | succ k =>
      rw [if_neg (nI_ge (by omega) (by omega)), nI_1]
      obtain ⟨x1, x2, x3, x4, x5⟩ := nxB_ok h6
      have loop : ∀ (n' o : Nat), f < o → o ≤ nxB (wntB W T m h) K f k a → nxB (wntB W T m h) K f k a - o < n' → f_X8_findRing_57 N (nI K) mt mw (f_X8_findRing_45 N (nI K) mt mw n) n' can ring (nI m) (nI h) (nI s) (nI f) (nI had) (nI o) = f_X8_findRing_45 N (nI K) mt mw n can (upd ring had (nI (nxB (wntB W T m h) K f k a))) (nI m) (nI h) (nI s) (nI f) (nI (had + 1)) := by
        intro n'
        induction n' with
        | zero => intro o p1 p2 p3; omega
        | succ n' ihn =>
          intro o p1 p2 p3
          rw [f_X8_findRing_57, pk_sub (show had ≤ s by omega), show s - had = k + 1 by omega, can_ix, rdI_n _ (by omega) (by decide), bd, hcan (k + 1) o (by omega) (by omega) (by omega) (by omega) (Or.inl (by omega)), show k + 1 - 1 = k by omega, nI_1]
          have hsk : o ≠ nxB (wntB W T m h) K f k a → f_X8_findRing_57 N (nI K) mt mw (f_X8_findRing_45 N (nI K) mt mw n) n' can ring (nI m) (nI h) (nI s) (nI f) (nI had) (nI (o + 1)) = f_X8_findRing_45 N (nI K) mt mw n can (upd ring had (nI (nxB (wntB W T m h) K f k a))) (nI m) (nI h) (nI s) (nI f) (nI (had + 1)) := fun hne => ihn (o + 1) (by omega) (by omega) (by omega)
          cases hc : cwB (wntB W T m h) K f k o with
          | false =>
            rw [if_pos (show boI false = 0 from rfl)]
            exact hsk (fun e => by rw [e, x4] at hc; cases hc)
          | true =>
            rw [if_neg (show ¬ boI true = 0 by decide), show nI had - 1 = nI (had - 1) from pk_sub h2, rdI_n _ (by omega) (by decide), bd, h5, X8_wants_ok hG m4 m5 hm hh (by omega) (by omega), bd]
            cases hR : wntB W T m h a o with
            | false =>
              rw [if_pos (show boI false = 0 from rfl)]
              exact hsk (fun e => by rw [e, x3] at hR; cases hR)
            | true =>
              have he : o = nxB (wntB W T m h) K f k a := by
                rcases Nat.lt_or_ge o (nxB (wntB W T m h) K f k a) with z | z
                · have := x5 o p1 z
                  rw [hc, hR] at this
                  cases this
                · omega
              rw [if_neg (show ¬ boI true = 0 by decide), wrI_n _ _ (by omega) (by decide), bd, nI_1, he]
      rw [loop N (f + 1) (by omega) (by omega) (by omega)]
      obtain ⟨ring', r1, r2, r3⟩ := ih k (had + 1) (nxB (wntB W T m h) K f k a) (upd ring had (nI (nxB (wntB W T m h) K f k a))) (by omega) (by omega) (by omega) x1 (by rw [show had + 1 - 1 = had by omega, pk_us]) x4
      refine ⟨ring', r1, fun i hi => by rw [r2 i (by omega), pk_un (by omega)], fun j hj => ?_⟩
      cases j with
      | zero => rw [Nat.add_zero, r2 had (by omega), pk_us, grB]
      | succ j =>
        rw [grB, show had + (j + 1) = had + 1 + j by omega]
        exact r3 j (by omega)
theorem findRing_13_ok (hG : GD K P S W T) (hN : 40000 ≤ N) (m4 : ∀ a q, a < 8 → q < 6 → mw (a * 6 + q) = nI (W a q)) (m5 : ∀ g a, g < 4 → a < 8 → mt (g * 8 + a) = nI (T g a)) (hm : m < 4) (hh : h < 4) {l : Nat} (hl : l < K) (k2 : (Nat → Int32) → (Nat → Int32) → Int32 → Int32 → Int32 → Option (Int32 × (Nat → Int32) × (Nat → Int32))) :
    ∀ (n f : Nat) (can ring : Nat → Int32), f ≤ K → K - f < n → (∀ f', f' < f → cwB (wntB W T m h) K f' l f' = false) →
      (fF (wntB W T m h) K l < K → ∃ can' ring', f_X8_findRing_13 N (nI K) mt mw k2 n can ring (nI m) (nI h) (nI (l + 1)) (nI f) = some (nI (l + 1), can', ring') ∧ ∀ i, i ≤ l → ring' i = nI (rngB (wntB W T m h) K l i)) ∧
      (¬ fF (wntB W T m h) K l < K → ∃ can', f_X8_findRing_13 N (nI K) mt mw k2 n can ring (nI m) (nI h) (nI (l + 1)) (nI f) = k2 can' ring (nI m) (nI h) (nI (l + 1 + 1))) := by
  have hK := hG.K8
  intro n
  induction n with
  | zero => intro f can ring h1 h2; omega
  | succ n ih =>
    intro f can ring h1 h2 h3
    rw [f_X8_findRing_13]
    by_cases hc : K ≤ f
    · have : f = K := by omega
      subst this
      rw [if_pos (nI_le (Nat.le_refl _) (by omega)), nI_1]
      exact ⟨fun z => absurd z ((fF_no (R := wntB W T m h) (l := l)).mpr (fun f' hf' => h3 f' hf')), fun _ => ⟨can, rfl⟩⟩
    · obtain ⟨can1, c1, c2⟩ := findCan_3_ok (N := N) hG hN m4 m5 hm hh (show f < K by omega) (show 1 ≤ l + 1 by omega) (show l + 1 ≤ 8 by omega) N 1 can (by omega) (by omega) (by omega) (fun k' a' p1 p2 p3 p4 p5 => by omega)
      have c1' : f_X8_findCan N (nI K) mt mw can (nI m) (nI h) (nI f) (nI (l + 1)) = some (boI (cwB (wntB W T m h) K f l f), can1) := c1
      rw [if_neg (nI_ge (by omega) (by omega)), c1', bd]
      simp only
      cases hcw : cwB (wntB W T m h) K f l f with
      | false =>
        rw [if_pos (show boI false = 0 from rfl), nI_1]
        exact ih (f + 1) can1 ring (by omega) (by omega) (fun f' hf' => by
          rcases Nat.lt_or_ge f' f with z | z
          · exact h3 f' z
          · rw [show f' = f by omega]; exact hcw)
      | true =>
        have hfF : fF (wntB W T m h) K l = f := frst_eq (by omega) hcw h3
        rw [if_neg (show ¬ boI true = 0 by decide), show wrI 8 ring 0 (nI f) = some (upd ring 0 (nI f)) from wrI_n (i := 0) _ _ (by decide) (by decide), bd]
        obtain ⟨ring', r1, r2, r3⟩ := findRing_45_ok (N := N) hG hN m4 m5 hm hh (show f < K by omega) (show l + 1 ≤ 8 by omega) c2 N l 1 f (upd ring 0 (nI f)) (by omega) (by omega) (by omega) (by omega) pk_us hcw
        refine ⟨fun _ => ⟨can1, ring', r1, fun i hi => ?_⟩, fun z => absurd (show fF (wntB W T m h) K l < K by omega) z⟩
        cases i with
        | zero => rw [rngB, hfF, r2 0 (by omega), pk_us]
        | succ i =>
          rw [rngB, hfF, show i + 1 = 1 + i by omega]
          exact r3 i (by omega)
theorem findRing_2_ok (hG : GD K P S W T) (hN : 40000 ≤ N) (m4 : ∀ a q, a < 8 → q < 6 → mw (a * 6 + q) = nI (W a q)) (m5 : ∀ g a, g < 4 → a < 8 → mt (g * 8 + a) = nI (T g a)) (hm : m < 4) (hh : h < 4) :
    ∀ (n l : Nat) (can ring : Nat → Int32), l ≤ K → K - l < n → (∀ l', l' < l → ¬ fF (wntB W T m h) K l' < K) →
      ∃ can' ring', f_X8_findRing_2 N (nI K) mt mw n can ring (nI m) (nI h) (nI (l + 1)) = some (nI (lnB (wntB W T m h) K), can', ring') ∧ ∀ i, i < lnB (wntB W T m h) K → ring' i = nI (rngB (wntB W T m h) K (lL (wntB W T m h) K) i) := by
  have hK := hG.K8
  intro n
  induction n with
  | zero => intro l can ring h1 h2; omega
  | succ n ih =>
    intro l can ring h1 h2 h3
    rw [f_X8_findRing_2]
    by_cases hc : K < l + 1
    · rw [if_pos (nI_lt hc (by omega))]
      have : ¬ lL (wntB W T m h) K < K := frst_nlt (fun l' hl' => by simpa using h3 l' (by omega))
      unfold lnB
      rw [if_neg this]
      exact ⟨can, ring, rfl, fun i hi => absurd hi (Nat.not_lt_zero i)⟩
    · rw [if_neg (nI_nlt (by omega) (by omega))]
      obtain ⟨g1, g2⟩ := findRing_13_ok (N := N) hG hN m4 m5 hm hh (show l < K by omega) (f_X8_findRing_2 N (nI K) mt mw n) N 0 can ring (by omega) (by omega) (fun f' hf' => absurd hf' (Nat.not_lt_zero _))
      by_cases hf : fF (wntB W T m h) K l < K
      · obtain ⟨can', ring', r1, r2⟩ := g1 hf
        have hL : lL (wntB W T m h) K = l := frst_eq (by omega) (by simpa using hf) (fun l' hl' => by simpa using h3 l' hl')
        have hln : lnB (wntB W T m h) K = l + 1 := by unfold lnB; rw [hL, if_pos (by omega)]
        rw [hln, hL]
        exact ⟨can', ring', r1, fun i hi => r2 i (by omega)⟩
      · obtain ⟨can', r1⟩ := g2 hf
        obtain ⟨can2, ring2, r2, r3⟩ := ih (l + 1) can' ring (by omega) (by omega) (fun l' hl' => by
          rcases Nat.lt_or_ge l' l with z | z
          · exact h3 l' z
          · rw [show l' = l by omega]; exact hf)
        exact ⟨can2, ring2, r1.trans r2, r3⟩
end RING
theorem lnB_le {R : Nat → Nat → Bool} (hK : K ≤ 8) : lnB R K ≤ 8 := by
  unfold lnB
  by_cases h : lL R K < K
  · rw [if_pos h]; omega
  · rw [if_neg h]; omega
theorem call_leaving (hG : GD K P S W T) (hN : 40000 ≤ N) {x y z : Int32} {c_can : Nat → Int32} {c_ring : Nat → Int32} {c_ring_length : Int32} {c_ring_members : Nat → Int32} {c_ring_wants : Nat → Int32} : ∀ {ca cp ma mp : Int32} {cs cl ct cw ms mw mt : Nat → Int32}, SB K P S W T ca cp cs cl ct cw → RepM K P S W T ma mp ms mw mt →
    ∃ r len' mem' wants' can' ring', f_X7_leaving N ca ct cw c_ring_length c_ring_members c_ring_wants x y z = some (r, len', mem', wants') ∧
      f_X8_leaving N ma mt mw c_can c_ring x y z = some (r, can', ring') := by
  intro ca cp ma mp cs cl ct cw ms mw mt hB hM
  obtain ⟨⟨e1, e2, e3, e4, e5⟩, hl⟩ := hB
  obtain ⟨m1, m2, m3, m4, m5⟩ := hM
  have hK := hG.K8
  subst e1; subst m1
  unfold f_X7_leaving f_X8_leaving
  rw [X7_isTold_ok, X8_isTold_ok, bd, bd]
  by_cases hx : isM 4 x
  · rw [if_pos hx, if_neg one_ne, if_neg one_ne, X7_isTold_ok, X8_isTold_ok, bd, bd]
    by_cases hy : isM 4 y
    · rw [if_pos hy, if_neg one_ne, if_neg one_ne]
      obtain ⟨m, hm, rfl⟩ := isM_ex hx
      obtain ⟨h, hh, rfl⟩ := isM_ex hy
      by_cases hz : (-1 : Int32) ≤ z
      · rw [if_pos hz, if_pos hz]
        obtain ⟨mem', wants', f1, f2⟩ := find_2_ok (N := N) (c_length := c_ring_length) (mem := c_ring_members) hN hG e4 e5 hm hh N 0 c_ring_wants (by omega) (by omega) (fun a' ha' => absurd ha' (Nat.not_lt_zero _))
        obtain ⟨can', ring', f3, f4⟩ := findRing_2_ok (N := N) hG hN m4 m5 hm hh N 0 c_can c_ring (by omega) (by omega) (fun a' ha' => absurd ha' (Nat.not_lt_zero _))
        have f1' : f_X3_find N (nI K) ct cw c_ring_length c_ring_members c_ring_wants (nI m) (nI h) = some (nI (lnB (wntB W T m h) K), mem', wants') := f1
        have f3' : f_X8_findRing N (nI K) mt mw c_can c_ring (nI m) (nI h) = some (nI (lnB (wntB W T m h) K), can', ring') := f3
        rw [f1', f3', bd, bd]
        simp only
        by_cases hz1 : z = -1
        · rw [if_pos hz1, if_pos hz1]
          exact ⟨_, _, _, _, _, _, rfl, rfl⟩
        · rw [if_neg hz1, if_neg hz1]
          have hl8 := lnB_le (R := wntB W T m h) hK
          have hz0 : 0 ≤ z.toInt := by
            rw [Int32.le_iff_toInt_le] at hz
            have h1 : (-1 : Int32).toInt = -1 := by decide
            have h2 : z.toInt ≠ -1 := fun e => hz1 (Int32.toInt_inj.mp (e.trans h1.symm))
            omega
          by_cases hz2 : nI (lnB (wntB W T m h) K) ≤ z
          · rw [if_pos hz2, if_pos hz2]
            exact ⟨_, _, _, _, _, _, rfl, rfl⟩
          · rw [if_neg hz2, if_neg hz2]
            have hlt : z.toInt < (lnB (wntB W T m h) K : Int) := by
              rw [Int32.le_iff_toInt_le, nI_toInt (by omega)] at hz2
              omega
            obtain ⟨i, hi, rfl⟩ := small_ex (x := z) (n := lnB (wntB W T m h) K) hz0 (by omega)
            rw [nI_toInt (by omega)] at hlt
            have hi2 : i < lnB (wntB W T m h) K := by omega
            rw [if_neg (show ¬ 8 ≤ nI i from nI_ge (b := 8) (by omega) (by omega)), rdI_n _ (by omega) (by decide), rdI_n _ (by omega) (by decide), bd, bd, f2 i hi2, f4 i hi2]
            exact ⟨_, _, _, _, _, _, rfl, rfl⟩
      · rw [if_neg hz, if_neg hz]
        exact ⟨_, _, _, _, _, _, rfl, rfl⟩
    · rw [if_neg hy, if_pos rfl, if_pos rfl]
      exact ⟨_, _, _, _, _, _, rfl, rfl⟩
  · rw [if_neg hx, if_pos rfl, if_pos rfl]
    exact ⟨_, _, _, _, _, _, rfl, rfl⟩
end LEAVE
