/-! WALK: the reference's i-th standing -/
section WALK
variable {N K P : Nat} {S : Nat → Nat} {W T : Nat → Nat → Nat} {mw ms weight fw sw : Nat → Int32} {freed tight : Nat} {stand : Nat → Int64}
theorem opt_st (n a : Nat) (σ : Sv) (o : Nat) : StIs (cv P (sRow W P tight 1 0 a) (rf (sRow W P tight 1 0) (a + 1) n) σ o) (fun f => stT W P tight n a f σ o) := by
  unfold cv stT
  cases hr : sRow W P tight 1 0 a o with
  | none => exact fun f => rfl
  | some γ =>
    simp only
    cases ht : tk σ o with
    | none => exact fun f => rfl
    | some σ' =>
      simp only
      have ih := st_bw (W := W) (P := P) (tight := tight) n (a + 1) σ'
      cases hb : bw P (rf (sRow W P tight 1 0) (a + 1) n) σ' with
      | none =>
        rw [hb] at ih
        have ih' : ∀ f, stN W P tight n (a + 1) f σ' = 0 := ih
        intro f
        show (if γ = 1 then if f = 0 then 0 else stN W P tight n (a + 1) (f - 1) σ' else stN W P tight n (a + 1) f σ') = 0
        rw [ih', ih']
        split <;> simp
      | some q =>
        rw [hb] at ih
        obtain ⟨i1, i2, i3⟩ := ih
        have i2' : stN W P tight n (a + 1) q.1.toNat σ' = q.2 := i2
        rcases sRow_01 hr with ⟨e, -⟩ | ⟨e, -⟩
        · subst e
          refine ⟨?_, ?_, fun f hf => ?_⟩
          · show 0 ≤ 1 + q.1; omega
          · show (if (1 : Int) = 1 then if (1 + q.1).toNat = 0 then 0 else stN W P tight n (a + 1) ((1 + q.1).toNat - 1) σ' else _) = q.2
            rw [if_pos rfl, if_neg (by omega), show (1 + q.1).toNat - 1 = q.1.toNat by omega]
            exact i2'
          · have hf' : 1 + q.1 < (f : Int) := hf
            show (if (1 : Int) = 1 then if f = 0 then 0 else stN W P tight n (a + 1) (f - 1) σ' else _) = 0
            rw [if_pos rfl, if_neg (by omega)]
            exact i3 (f - 1) (by omega)
        · subst e
          refine ⟨?_, ?_, fun f hf => ?_⟩
          · show 0 ≤ 0 + q.1; omega
          · show (if (0 : Int) = 1 then _ else stN W P tight n (a + 1) (0 + q.1).toNat σ') = q.2
            rw [if_neg (by decide), Int.zero_add]
            exact i2'
          · have hf' : 0 + q.1 < (f : Int) := hf
            show (if (0 : Int) = 1 then _ else stN W P tight n (a + 1) f σ') = 0
            rw [if_neg (by decide)]
            exact i3 f (by omega)
theorem wt_st {n a f M : Nat} {σ : Sv} (hb : bw P (rf (sRow W P tight 1 0) a (n + 1)) σ = some ((f : Int), M)) {o : Nat} (ho : o < P + 1) : wt (cv P (sRow W P tight 1 0 a) (rf (sRow W P tight 1 0) (a + 1) n) σ) (f : Int) o = stT W P tight n a f σ o := by
  rw [rf, bw_cons] at hb
  obtain ⟨h1, -, -⟩ := fo_some hb
  have h2 := opt_st (W := W) (P := P) (tight := tight) n a σ o
  unfold wt
  cases hc : cv P (sRow W P tight 1 0 a) (rf (sRow W P tight 1 0) (a + 1) n) σ o with
  | none => rw [hc] at h2; exact (h2 f).symm
  | some c =>
    rw [hc] at h2
    obtain ⟨j1, j2, j3⟩ := h2
    have hle := h1 o ho c hc
    simp only
    by_cases e : c.1 = (f : Int)
    · rw [if_pos e]
      have : c.1.toNat = f := by omega
      rw [← this]; exact j2.symm
    · rw [if_neg e]; exact (j3 f (by omega)).symm
theorem may_open {a o : Nat} (hm : mayB W P tight a o = true) : ∀ q, o = q + 1 → 0 < W a q := by
  intro q hq
  subst hq
  unfold mayB isF at hm
  simp only [Bool.or_eq_true, Bool.and_eq_true, decide_eq_true_eq] at hm
  rcases hm with z | ⟨-, z⟩
  · unfold fB at z
    simp only [Bool.and_eq_true, decide_eq_true_eq] at z
    exact z.1
  · have h7 := swR_7 (W := W) (tight := tight) a P
    rw [← z] at h7
    unfold wo at h7
    simp only at h7
    rcases Nat.eq_zero_or_pos (W a q) with y | y
    · rw [if_pos y] at h7; omega
    · exact y
/-- an option with standings: its state after, and firsts left -/
theorem stT_pos {n a f s o : Nat} (h : 0 < stT W P tight n a f (dig S s) o) : ∃ t, tkS S W a o s = some t ∧ tk (dig S s) o = some (dig S t) ∧ ((isF W P a o = true ∧ 0 < f ∧ stT W P tight n a f (dig S s) o = stN W P tight n (a + 1) (f - 1) (dig S t)) ∨ (isF W P a o = false ∧ stT W P tight n a f (dig S s) o = stN W P tight n (a + 1) f (dig S t))) := by
  unfold stT at h ⊢
  rw [sRow_may] at h ⊢
  by_cases hm : mayB W P tight a o = true
  · rw [if_pos hm] at h ⊢
    have hop := may_open hm
    have htk := tkS_tk (S := S) (s := s) hop
    rw [htk] at h ⊢
    cases ht : tkS S W a o s with
    | none =>
      rw [ht] at h
      exfalso
      by_cases hf : isF W P a o = true
      · simp [hf] at h
      · simp [hf] at h
    | some t =>
      rw [ht] at h
      refine ⟨t, rfl, rfl, ?_⟩
      by_cases hf : isF W P a o = true
      · simp only [if_pos hf, Option.map_some] at h ⊢
        by_cases h0 : f = 0
        · rw [if_pos trivial, if_pos h0] at h; omega
        · exact Or.inl ⟨hf, by omega, by rw [if_pos trivial, if_neg h0]⟩
      · simp only [if_neg hf, Option.map_some] at h ⊢
        exact Or.inr ⟨by simpa using hf, by rw [if_neg (show ¬ (0 : Int) = 1 by decide)]⟩
  · rw [if_neg hm] at h; exact absurd h (Nat.lt_irrefl 0)
theorem sa_74 (hN : 40000 ≤ N) (hG : GD K P S W T) (hs : ∀ q, q < 6 → ms q = nI (S q)) (hw : ∀ a q, a < 8 → q < 6 → mw (a * 6 + q) = nI (W a q)) (hwt : ∀ j, j < P → weight j = nI (wgt S j)) (hfr : freed < 64) (hft : ∀ q, q < P → (bt freed q = 1 ↔ bt tight q ≠ 1)) (hfw : ∀ b, b < K → fw b = nI (fwR W b P)) (hsw : ∀ b, b < K → sw b = nI (swR W tight b P)) (hTT : ∀ b, b ≤ K → TT K P S W tight stand b) {a f s : Nat} (ha : a < K) (hf8 : f ≤ 8) (hsl : s < wgt S P) {c_firsts : Int32} {c_cost : (Nat → Int64)} {c_found : (Nat → Int32)} {c_least : (Nat → Int64)} {v3 : Int32} (k65 : Int32 → Int32 → Int32 → (Nat → Int64) → (Nat → Int32) → (Nat → Int32) → (Nat → Int64) → (Nat → Int32) → (Nat → Int32) → (Nat → Int64) → (Nat → Int32) → Int32 → Int64 → Int32 → Int32 → Int32 → Int32 → Option (Int32 × Int32 × Int32 × Int32 × (Nat → Int64) × (Nat → Int32) × (Nat → Int32) × (Nat → Int64) × (Nat → Int32) × (Nat → Int32) × (Nat → Int64) × (Nat → Int32))) :
    ∀ (n o i : Nat), o ≤ P → P + 1 - o < n → i < 2 ^ 31 → (sl (stT W P tight (K - (a + 1)) a f (dig S s)) (P - o) o i).2 < stT W P tight (K - (a + 1)) a f (dig S s) (sl (stT W P tight (K - (a + 1)) a f (dig S s)) (P - o) o i).1 →
      ∃ t f', tkS S W a (sl (stT W P tight (K - (a + 1)) a f (dig S s)) (P - o) o i).1 s = some t ∧ tk (dig S s) (sl (stT W P tight (K - (a + 1)) a f (dig S s)) (P - o) o i).1 = some (dig S t) ∧ f' ≤ f ∧ stT W P tight (K - (a + 1)) a f (dig S s) (sl (stT W P tight (K - (a + 1)) a f (dig S s)) (P - o) o i).1 = stN W P tight (K - (a + 1)) (a + 1) f' (dig S t) ∧ (f' : Int) + (if isF W P a (sl (stT W P tight (K - (a + 1)) a f (dig S s)) (P - o) o i).1 = true then 1 else 0) = f ∧
        f_X8_standingAt_74 N (nI K) (nI P) mw k65 n (nI (wgt S P - 1)) c_firsts (nI freed) c_cost fw c_found c_least ms sw stand weight v3 (lN i) (nI s) (nI f) (nI o) (nI a) = k65 (nI (wgt S P - 1)) c_firsts (nI freed) c_cost fw c_found c_least ms sw stand weight v3 (lN (sl (stT W P tight (K - (a + 1)) a f (dig S s)) (P - o) o i).2) (nI t) (nI f') (nI (sl (stT W P tight (K - (a + 1)) a f (dig S s)) (P - o) o i).1) (nI (a + 1)) := by
  have hK := hG.K8
  have hP := hG.P6
  have hW4 := wgt_le6 S (fun q _ => hG.S3 q) hP
  intro n
  induction n with
  | zero => intro o i h1 h2; omega
  | succ n ih =>
    intro o i ho hn hi hpos
    have hst := stN_le (W := W) (P := P) (tight := tight)
    have hbd : stT W P tight (K - (a + 1)) a f (dig S s) o < 2 ^ 31 := by
      have h1 : stT W P tight (K - (a + 1)) a f (dig S s) o ≤ (P + 1) ^ (K - (a + 1)) := by
        unfold stT
        split
        · exact Nat.zero_le _
        · split
          · exact Nat.zero_le _
          · split
            · split
              · exact Nat.zero_le _
              · exact hst _ _ _ _
            · exact hst _ _ _ _
      have h2 : (P + 1) ^ (K - (a + 1)) ≤ 7 ^ (K - (a + 1)) := Nat.pow_le_pow_left (by omega) _
      have h3 : 7 ^ (K - (a + 1)) ≤ 7 ^ 8 := Nat.pow_le_pow_right (by decide) (by omega)
      omega
    have hon := X8_standOn_ok (N := N) hK hG.W6 hP (fun q _ => hG.S3 q) hs hw hwt hfr hft ha ho hf8 hsl (hfw a ha) (hsw a ha) (hTT (a + 1) (by omega))
    rw [f_X8_standingAt_74, hon, bd]
    by_cases hlt : i < stT W P tight (K - (a + 1)) a f (dig S s) o
    · have e : sl (stT W P tight (K - (a + 1)) a f (dig S s)) (P - o) o i = (o, i) := by
        rcases Nat.eq_or_lt_of_le ho with z | z
        · rw [show P - o = 0 by omega]; rfl
        · rw [show P - o = P - (o + 1) + 1 by omega, sl, if_pos hlt]
      rw [e]
      obtain ⟨t, t1, t2, t3⟩ := stT_pos (Nat.lt_of_le_of_lt (Nat.zero_le i) hlt)
      rw [if_pos ((lN_lt hi hbd).mpr hlt), X8_isFirst_ok hG.W6 hP hw (show a < 8 by omega) ho (hfw a ha), bd]
      unfold f_X8_standingAt_133
      rw [X8_takes_ok N hP hs (fun q _ => hG.S3 q) hG.W6 hw hwt (by omega) ho (by omega), bd, bd, t1]
      rcases t3 with ⟨g1, g2, g3⟩ | ⟨g1, g2⟩
      · rw [show (if isF W P a o = true then (1 : Int32) else 0) = 1 from if_pos g1, if_neg one_ne, show nI f - 1 = nI (f - 1) from pk_sub g2, nI_1]
        exact ⟨t, f - 1, rfl, t2, by omega, g3, by rw [if_pos g1]; omega, rfl⟩
      · rw [show (if isF W P a o = true then (1 : Int32) else 0) = 0 from if_neg (by rw [g1]; decide), if_pos rfl, Int32.sub_zero, nI_1]
        exact ⟨t, f, rfl, t2, Nat.le_refl _, g2, by rw [if_neg (by rw [g1]; decide)]; omega, rfl⟩
    · rw [if_neg (fun z => hlt ((lN_lt hi hbd).mp z)), bd]
      by_cases hoP : o = P
      · subst hoP
        rw [Nat.sub_self] at hpos
        exact absurd hpos hlt
      · have e : sl (stT W P tight (K - (a + 1)) a f (dig S s)) (P - o) o i = sl (stT W P tight (K - (a + 1)) a f (dig S s)) (P - (o + 1)) (o + 1) (i - stT W P tight (K - (a + 1)) a f (dig S s) o) := by
          rw [show P - o = P - (o + 1) + 1 by omega, sl, if_neg hlt]
        rw [e] at hpos ⊢
        rw [lN_sub (by omega), nI_1]
        exact ih (o + 1) _ (by omega) (by omega) (by omega) hpos
end WALK
