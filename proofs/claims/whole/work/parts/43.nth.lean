/-! the i-th of the best givings, and that the first is the first -/
def gv (P : Nat) : List Row → Sv → List Nat → Option Int
  | [], _, [] => some 0
  | g :: t, σ, o :: os => if o ≤ P then (match g o with
    | none => none
    | some γ => match tk σ o with
      | none => none
      | some σ' => (gv P t σ' os).map (fun v => γ + v)) else none
  | _, _, _ => none
def sl (w : Nat → Nat) : Nat → Nat → Nat → Nat × Nat
  | 0, c, i => (c, i)
  | n + 1, c, i => if i < w c then (c, i) else sl w n (c + 1) (i - w c)
theorem sl_spec (w : Nat → Nat) : ∀ (n c i : Nat), fb_sm w c + i < fb_sm w (c + n + 1) → c ≤ (sl w n c i).1 ∧ (sl w n c i).1 ≤ c + n ∧ (sl w n c i).2 < w (sl w n c i).1 ∧ fb_sm w (sl w n c i).1 + (sl w n c i).2 = fb_sm w c + i
  | 0, c, i, h => by
    rw [fb_sm_succ] at h
    exact ⟨Nat.le_refl _, Nat.le_refl _, by show i < w c; omega, rfl⟩
  | n + 1, c, i, h => by
    unfold sl
    by_cases hi : i < w c
    · rw [if_pos hi]
      exact ⟨Nat.le_refl _, by show c ≤ c + (n + 1); omega, hi, rfl⟩
    · rw [if_neg hi]
      have hs := fb_sm_succ w c
      obtain ⟨a1, a2, a3, a4⟩ := sl_spec w n (c + 1) (i - w c) (by rw [show c + 1 + n + 1 = c + (n + 1) + 1 from by omega]; omega)
      exact ⟨by omega, by omega, a3, by omega⟩
def nth (P : Nat) : List Row → Sv → Nat → List Nat
  | [], _, _ => []
  | g :: t, σ, i => match bw P (g :: t) σ with
    | none => []
    | some q => (sl (wt (cv P g t σ) q.1) P 0 i).1 :: (match tk σ (sl (wt (cv P g t σ) q.1) P 0 i).1 with
      | none => []
      | some σ' => nth P t σ' (sl (wt (cv P g t σ) q.1) P 0 i).2)
theorem cv_some {P : Nat} {g : Row} {t : List Row} {σ : Sv} {o : Nat} {c : Int × Nat} (h : cv P g t σ o = some c) : ∃ γ σ' b, g o = some γ ∧ tk σ o = some σ' ∧ bw P t σ' = some (b, c.2) ∧ c.1 = γ + b := by
  unfold cv at h
  split at h
  · cases h
  · rename_i γ hγ
    split at h
    · cases h
    · rename_i σ' hσ
      cases hb : bw P t σ' with
      | none => rw [hb] at h; cases h
      | some q =>
        rw [hb] at h
        simp only [Option.map_some, Option.some.injEq] at h
        subst h
        exact ⟨γ, σ', q.1, hγ, hσ, by rw [hb], rfl⟩
theorem cv_mk {P : Nat} {g : Row} {t : List Row} {σ σ' : Sv} {o : Nat} {γ b : Int} {m : Nat} (h1 : g o = some γ) (h2 : tk σ o = some σ') (h3 : bw P t σ' = some (b, m)) : cv P g t σ o = some (γ + b, m) := by
  unfold cv
  rw [h1]; simp only
  rw [h2]; simp only
  rw [h3]; rfl
theorem gv_le (P : Nat) : ∀ (t : List Row) (σ : Sv) (os : List Nat) (v : Int), gv P t σ os = some v → ∃ B M, bw P t σ = some (B, M) ∧ v ≤ B
  | [], σ, [], v, h => by cases h; exact ⟨0, 1, rfl, Int.le_refl _⟩
  | [], σ, _ :: _, v, h => by cases h
  | g :: t, σ, [], v, h => by cases h
  | g :: t, σ, o :: os, v, h => by
    unfold gv at h
    split at h
    · rename_i ho
      split at h
      · cases h
      · rename_i γ hγ
        split at h
        · cases h
        · rename_i σ' hσ
          cases hg : gv P t σ' os with
          | none => rw [hg] at h; cases h
          | some u =>
            rw [hg] at h
            simp only [Option.map_some, Option.some.injEq] at h
            obtain ⟨B, M, hb, hu⟩ := gv_le P t σ' os u hg
            have hc := cv_mk hγ hσ hb
            cases hf : fo (cv P g t σ) (P + 1) with
            | none => have := fo_none.mp hf o (by omega); rw [hc] at this; cases this
            | some q =>
              obtain ⟨qb, qm⟩ := q
              have := (fo_some hf).1 o (by omega) _ hc
              exact ⟨qb, qm, by rw [bw_cons]; exact hf, by simp only at this; omega⟩
    · cases h
theorem nth_ok (P : Nat) : ∀ (t : List Row) (σ : Sv) (B : Int) (M i : Nat), bw P t σ = some (B, M) → i < M → gv P t σ (nth P t σ i) = some B
  | [], σ, B, M, i, h, _ => by cases h; rfl
  | g :: t, σ, B, M, i, h, hi => by
    have hf := h
    rw [bw_cons] at hf
    obtain ⟨-, -, f3⟩ := fo_some hf
    obtain ⟨-, s2, s3, -⟩ := sl_spec (wt (cv P g t σ) B) P 0 i (by rw [show 0 + P + 1 = P + 1 from by omega, ← f3]; show 0 + i < M; omega)
    unfold nth
    rw [h]
    simp only
    generalize sl (wt (cv P g t σ) B) P 0 i = z at s2 s3 ⊢
    obtain ⟨o, i'⟩ := z
    simp only at s2 s3 ⊢
    cases hc : cv P g t σ o with
    | none => unfold wt at s3; rw [hc] at s3; exact absurd s3 (Nat.not_lt_zero _)
    | some c =>
      unfold wt at s3
      rw [hc] at s3
      simp only at s3
      by_cases hcb : c.1 = B
      · rw [if_pos hcb] at s3
        obtain ⟨γ, σ', b, h1, h2, h3, h4⟩ := cv_some hc
        rw [h2]
        simp only
        unfold gv
        rw [if_pos (by omega), h1]
        simp only
        rw [h2]
        simp only
        rw [nth_ok P t σ' b c.2 i' h3 s3]
        simp only [Option.map_some, Option.some.injEq]
        omega
      · rw [if_neg hcb] at s3; exact absurd s3 (Nat.not_lt_zero _)
def lle : List Nat → List Nat → Prop
  | [], _ => True
  | _ :: _, [] => False
  | a :: s, b :: t => a < b ∨ (a = b ∧ lle s t)
theorem lle_anti : ∀ (s t : List Nat), s.length = t.length → lle s t → lle t s → s = t
  | [], [], _, _, _ => rfl
  | [], _ :: _, h, _, _ => by cases h
  | _ :: _, [], h, _, _ => by cases h
  | a :: s, b :: t, h, h1, h2 => by
    rcases h1 with h1 | ⟨h1, h3⟩
    · rcases h2 with h2 | ⟨h2, -⟩ <;> omega
    · rcases h2 with h2 | ⟨h2, h4⟩
      · omega
      · rw [h1, lle_anti s t (by simpa using h) h3 h4]
theorem gv_len (P : Nat) : ∀ (t : List Row) (σ : Sv) (os : List Nat) (v : Int), gv P t σ os = some v → os.length = t.length
  | [], σ, [], v, _ => rfl
  | [], σ, _ :: _, v, h => by cases h
  | g :: t, σ, [], v, h => by cases h
  | g :: t, σ, o :: os, v, h => by
    unfold gv at h
    split at h
    · split at h
      · cases h
      · split at h
        · cases h
        · rename_i σ' _
          cases hg : gv P t σ' os with
          | none => rw [hg] at h; cases h
          | some u => rw [List.length_cons, List.length_cons, gv_len P t σ' os u hg]
    · cases h
theorem nth_first (P : Nat) : ∀ (t : List Row) (σ : Sv) (B : Int) (M : Nat), bw P t σ = some (B, M) → ∀ os, gv P t σ os = some B → lle (nth P t σ 0) os
  | [], σ, B, M, h, os, _ => by unfold nth; trivial
  | g :: t, σ, B, M, h, [], ho => by cases ho
  | g :: t, σ, B, M, h, o2 :: os, ho => by
    have hf := h
    rw [bw_cons] at hf
    have hM := bw_pos P (g :: t) σ B M h
    obtain ⟨f1, -, f3⟩ := fo_some hf
    obtain ⟨-, s2, s3, s4⟩ := sl_spec (wt (cv P g t σ) B) P 0 0 (by rw [show 0 + P + 1 = P + 1 from by omega, ← f3]; show 0 + 0 < M; omega)
    unfold gv at ho
    split at ho
    case isFalse => cases ho
    rename_i ho2
    split at ho
    · cases ho
    rename_i γ2 hγ2
    split at ho
    · cases ho
    rename_i σ2 hσ2
    cases hg : gv P t σ2 os with
    | none => rw [hg] at ho; cases ho
    | some u =>
      rw [hg] at ho
      simp only [Option.map_some, Option.some.injEq] at ho
      obtain ⟨B2, M2, hb2, hu⟩ := gv_le P t σ2 os u hg
      have hc2 := cv_mk hγ2 hσ2 hb2
      have hle := f1 o2 (by omega) _ hc2
      simp only at hle
      have hB2 : γ2 + B2 = B := by omega
      have huB : u = B2 := by omega
      have hw2 : 0 < wt (cv P g t σ) B o2 := by
        unfold wt
        rw [hc2]
        simp only
        rw [if_pos hB2]
        exact bw_pos P t σ2 B2 M2 hb2
      unfold nth
      rw [h]
      simp only
      generalize sl (wt (cv P g t σ) B) P 0 0 = z at s2 s3 s4 ⊢
      obtain ⟨o, i'⟩ := z
      simp only at s2 s3 s4 ⊢
      have hz : fb_sm (wt (cv P g t σ) B) o = 0 := by
        have : fb_sm (wt (cv P g t σ) B) 0 = 0 := rfl
        omega
      have hi' : i' = 0 := by
        have : fb_sm (wt (cv P g t σ) B) 0 = 0 := rfl
        omega
      rcases Nat.lt_or_ge o2 o with q | q
      · have := fb_sm_zero hz o2 q
        omega
      · rcases Nat.lt_or_ge o o2 with q2 | q2
        · exact Or.inl q2
        · have : o = o2 := by omega
          subst this
          refine Or.inr ⟨rfl, ?_⟩
          rw [hσ2]
          simp only
          rw [hi']
          exact nth_first P t σ2 B2 M2 hb2 os (by rw [hg, huB])
