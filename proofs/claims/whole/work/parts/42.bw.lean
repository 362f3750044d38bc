/-! GIVINGS: the best sum over all, how many reach it, the i-th of them -/
abbrev Sv : Type := Nat → Nat
def dec (σ : Sv) (q : Nat) : Sv := fun j => if j = q then σ j - 1 else σ j
def tk (σ : Sv) (o : Nat) : Option Sv := match o with
  | 0 => some σ
  | q + 1 => if 0 < σ q then some (dec σ q) else none
abbrev Row : Type := Nat → Option Int
abbrev Bw : Type := Option (Int × Nat)
def cmb (x y : Bw) : Bw := match x with
  | none => y
  | some p => match y with
    | none => some p
    | some q => if p.1 < q.1 then some q else if p.1 = q.1 then some (p.1, p.2 + q.2) else some p
def fo (f : Nat → Bw) : Nat → Bw
  | 0 => none
  | n + 1 => cmb (fo f n) (f n)
def bw (P : Nat) : List Row → Sv → Bw
  | [], _ => some (0, 1)
  | g :: t, σ => fo (fun o => match g o with
    | none => none
    | some γ => match tk σ o with
      | none => none
      | some σ' => (bw P t σ').map (fun q => (γ + q.1, q.2))) (P + 1)
def cv (P : Nat) (g : Row) (t : List Row) (σ : Sv) (o : Nat) : Bw := match g o with
  | none => none
  | some γ => match tk σ o with
    | none => none
    | some σ' => (bw P t σ').map (fun q => (γ + q.1, q.2))
theorem bw_cons (P : Nat) (g : Row) (t : List Row) (σ : Sv) : bw P (g :: t) σ = fo (cv P g t σ) (P + 1) := rfl
/-- how many of the best go by an option -/
def wt (f : Nat → Bw) (B : Int) (o : Nat) : Nat := match f o with
  | none => 0
  | some c => if c.1 = B then c.2 else 0
theorem cmb_none (y : Bw) : cmb none y = y := rfl
theorem cmb_none2 (x : Bw) : cmb x none = x := by cases x <;> rfl
theorem fo_none {f : Nat → Bw} : ∀ {n : Nat}, fo f n = none ↔ ∀ o, o < n → f o = none
  | 0 => ⟨fun _ o h => absurd h (Nat.not_lt_zero o), fun _ => rfl⟩
  | n + 1 => by
    rw [fo]
    constructor
    · intro h
      cases hx : fo f n with
      | none =>
        rw [hx, cmb_none] at h
        intro o ho
        rcases Nat.lt_or_ge o n with q | q
        · exact fo_none.mp hx o q
        · rw [show o = n from by omega]; exact h
      | some p =>
        rw [hx] at h
        cases hy : f n with
        | none => rw [hy] at h; cases h
        | some q =>
          rw [hy] at h
          simp only [cmb] at h
          split at h
          · cases h
          · split at h <;> cases h
    · intro h
      rw [fo_none.mpr (fun o ho => h o (by omega)), cmb_none]
      exact h n (by omega)
theorem fb_sm_zero_of {f : Nat → Nat} : ∀ {n : Nat}, (∀ k, k < n → f k = 0) → fb_sm f n = 0
  | 0, _ => rfl
  | n + 1, h => by rw [fb_sm_succ, fb_sm_zero_of (fun k hk => h k (by omega)), h n (by omega)]
theorem fo_some {f : Nat → Bw} : ∀ {n : Nat} {B : Int} {M : Nat}, fo f n = some (B, M) → (∀ o, o < n → ∀ c, f o = some c → c.1 ≤ B) ∧ (∃ o, o < n ∧ ∃ m, f o = some (B, m)) ∧ M = fb_sm (wt f B) n
  | 0, _, _, h => by cases h
  | n + 1, B, M, h => by
    rw [fo] at h
    cases hx : fo f n with
    | none =>
      rw [hx, cmb_none] at h
      have h0 := fo_none.mp hx
      refine ⟨fun o ho c hc => ?_, ⟨n, by omega, M, h⟩, ?_⟩
      · rcases Nat.lt_or_ge o n with q | q
        · rw [h0 o q] at hc; cases hc
        · rw [show o = n from by omega, h] at hc
          cases hc; exact Int.le_refl _
      · rw [fb_sm_succ, fb_sm_zero_of (fun k hk => by unfold wt; rw [h0 k hk])]
        unfold wt
        rw [h]; simp
    | some p =>
      obtain ⟨pb, pm⟩ := p
      obtain ⟨i1, i2, i3⟩ := fo_some hx
      rw [hx] at h
      cases hy : f n with
      | none =>
        rw [hy, cmb_none2] at h
        cases h
        refine ⟨fun o ho c hc => ?_, ?_, ?_⟩
        · rcases Nat.lt_or_ge o n with q | q
          · exact i1 o q c hc
          · rw [show o = n from by omega, hy] at hc; cases hc
        · obtain ⟨o, ho, m, hm⟩ := i2
          exact ⟨o, by omega, m, hm⟩
        · rw [fb_sm_succ, ← i3]
          unfold wt
          rw [hy]; rfl
      | some q =>
        obtain ⟨qb, qm⟩ := q
        rw [hy] at h
        simp only [cmb] at h
        split at h
        · rename_i hlt
          cases h
          refine ⟨fun o ho c hc => ?_, ⟨n, by omega, _, hy⟩, ?_⟩
          · rcases Nat.lt_or_ge o n with z | z
            · have := i1 o z c hc; omega
            · rw [show o = n from by omega, hy] at hc; cases hc; exact Int.le_refl _
          · rw [fb_sm_succ, fb_sm_zero_of (fun k hk => ?_)]
            · unfold wt; rw [hy]; simp
            · unfold wt
              cases hk2 : f k with
              | none => rfl
              | some c =>
                have := i1 k hk c hk2
                simp only
                rw [if_neg (by omega)]
        · split at h
          · rename_i hne heq
            cases h
            refine ⟨fun o ho c hc => ?_, ?_, ?_⟩
            · rcases Nat.lt_or_ge o n with z | z
              · exact i1 o z c hc
              · rw [show o = n from by omega, hy] at hc; cases hc; first | omega | (simp only; omega)
            · obtain ⟨o, ho, m, hm⟩ := i2
              exact ⟨o, by omega, m, hm⟩
            · rw [fb_sm_succ, ← i3]
              unfold wt
              rw [hy]; simp [heq]
          · rename_i hne hne2
            cases h
            refine ⟨fun o ho c hc => ?_, ?_, ?_⟩
            · rcases Nat.lt_or_ge o n with z | z
              · exact i1 o z c hc
              · rw [show o = n from by omega, hy] at hc; cases hc; first | omega | (simp only; omega)
            · obtain ⟨o, ho, m, hm⟩ := i2
              exact ⟨o, by omega, m, hm⟩
            · rw [fb_sm_succ, ← i3]
              unfold wt
              rw [hy]
              simp only
              rw [if_neg (by omega), Nat.add_zero]
theorem bw_pos (P : Nat) : ∀ (t : List Row) (σ : Sv) (B : Int) (M : Nat), bw P t σ = some (B, M) → 0 < M
  | [], σ, B, M, h => by cases h; decide
  | g :: t, σ, B, M, h => by
    rw [bw_cons] at h
    obtain ⟨-, ⟨o, ho, m, hm⟩, h3⟩ := fo_some h
    have hm2 : 0 < m := by
      unfold cv at hm
      split at hm
      · cases hm
      · split at hm
        · cases hm
        · rename_i σ' _
          cases hb : bw P t σ' with
          | none => rw [hb] at hm; cases hm
          | some q =>
            rw [hb] at hm
            obtain ⟨qb, qm⟩ := q
            have := bw_pos P t σ' qb qm hb
            simp only [Option.map_some, Option.some.injEq, Prod.mk.injEq] at hm
            omega
    have hw : wt (cv P g t σ) B o = m := by unfold wt; rw [hm]; simp
    have := fb_sm_part (wt (cv P g t σ) B) ho
    omega
