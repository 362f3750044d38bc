/-! printed by wip/gen/step.py: PURE -/
section PUREPART
theorem init_59 {N : Nat} {told : Nat → Int32} : ∀ (n i : Nat) (likes : Nat → Int32), i ≤ 48 → 48 - i < n → (∀ j, j < i → likes j = -1) → ∃ l', f_X0_init_59 N n likes told (nI i) = some (l', told) ∧ ∀ j, j < 48 → l' j = -1 := by
  intro n
  induction n with
  | zero => intro i likes h1 h2; omega
  | succ n ih =>
    intro i likes hi hn h
    rw [f_X0_init_59]
    rcases Nat.eq_or_lt_of_le hi with e | e
    · subst e
      rw [if_pos (by decide)]
      exact ⟨likes, rfl, h⟩
    · rw [if_neg (show ¬ (48 : Int32) ≤ nI i from nI_ge (b := 48) e (by decide)), wrI_n _ _ e (by decide), bd, nI_1]
      refine ih (i + 1) _ (by omega) (by omega) (fun j hj => ?_)
      unfold upd
      split
      · rfl
      · exact h j (by omega)
theorem init_38 {N : Nat} {likes : Nat → Int32} : ∀ (n i : Nat) (told : Nat → Int32), i ≤ 32 → 32 - i < n → (∀ j, j < i → told j = -1) → ∃ t', f_X0_init_38 N n likes told (nI i) = f_X0_init_59 N N likes t' 0 ∧ ∀ j, j < 32 → t' j = -1 := by
  intro n
  induction n with
  | zero => intro i likes h1 h2; omega
  | succ n ih =>
    intro i told hi hn h
    rw [f_X0_init_38]
    rcases Nat.eq_or_lt_of_le hi with e | e
    · subst e
      rw [if_pos (by decide)]
      exact ⟨told, rfl, h⟩
    · rw [if_neg (show ¬ (32 : Int32) ≤ nI i from nI_ge (b := 32) e (by decide)), wrI_n _ _ e (by decide), bd, nI_1]
      refine ih (i + 1) _ (by omega) (by omega) (fun j hj => ?_)
      unfold upd
      split
      · rfl
      · exact h j (by omega)
theorem init_ok {N : Nat} (hN : 100 ≤ N) : ∃ l t, f_X0_init N = some (l, t) ∧ (∀ j, j < 48 → l j = -1) ∧ ∀ j, j < 32 → t j = -1 := by
  unfold f_X0_init
  obtain ⟨t, e1, h1⟩ := init_38 (N := N) (likes := fun _ => 0) N 0 (fun _ => 0) (Nat.zero_le _) (by omega) (fun j hj => absurd hj (Nat.not_lt_zero j))
  obtain ⟨l, e2, h2⟩ := init_59 (N := N) (told := t) N 0 (fun _ => 0) (Nat.zero_le _) (by omega) (fun j hj => absurd hj (Nat.not_lt_zero j))
  rw [nI_0] at e1 e2
  exact ⟨l, t, e1.trans e2, h2, h1⟩
theorem had_0 (o : Nat) : had 0 (fun _ => 0) o = 0 := rfl
theorem PURE (L : Nat) (xs : Nat → Int32) (hL : L ≤ 2048) : ∃ (N : Nat) (c_likes c_told : Nat → Int32), f_X0_init N = some (c_likes, c_told) ∧ f_L_law N L xs c_likes c_told = some 1 := by
  obtain ⟨c_likes, c_told, hi, h1, h2⟩ := init_ok (N := 40000) (by decide)
  refine ⟨40000, c_likes, c_told, hi, ?_⟩
  unfold f_L_law
  have hG : GD 0 0 (fun _ => 0) (fun _ _ => 0) (fun _ _ => 0) := ⟨⟨by decide, by decide, fun q hq => absurd hq (Nat.not_lt_zero q), fun _ _ => rfl, fun _ _ => Nat.zero_le _, fun _ _ _ => rfl, fun _ _ _ => rfl, fun _ _ => Nat.zero_le _, fun _ _ _ => rfl, fun g a q h => (Nat.succ_ne_zero q h.symm).elim, fun g q hq => absurd hq (Nat.not_lt_zero q)⟩, fun _ _ _ => rfl⟩
  have hB : SB 0 0 (fun _ => 0) (fun _ _ => 0) (fun _ _ => 0) 0 0 (fun _ => 0) c_likes c_told (fun _ => 0) := ⟨⟨rfl, rfl, fun _ _ => rfl, fun _ _ _ _ => rfl, fun g a hg ha => by rw [oI_0]; exact h2 _ (by omega)⟩, fun a ha => ⟨0, by decide, ⟨fun _ => 0, fun i hi => absurd hi (Nat.not_lt_zero i), fun i j _ hj => absurd hj (Nat.not_lt_zero j), fun q hq => absurd hq (Nat.not_lt_zero q)⟩, fun i _ hi => h1 _ (by omega)⟩⟩
  have hM : RepM 0 0 (fun _ => 0) (fun _ _ => 0) (fun _ _ => 0) 0 0 (fun _ => 0) (fun _ => 0) (fun _ => 0) := ⟨rfl, rfl, fun _ _ => rfl, fun _ _ _ _ => rfl, fun _ _ _ _ => rfl⟩
  have hLo : LotsOk 0 0 (fun _ => 0) (fun _ _ => 0) 0 0 (-1) 0 (fun _ => 0) (fun _ => 0) := ⟨0, 0, 0, rfl, oI_0.symm, by decide, Nat.le_refl _, rfl, Nat.le_refl _, fun h => absurd h (by decide), fun i _ => ⟨0, by decide, rfl⟩⟩
  have h0 : LR 0 0 1 0 0 0 (fun _ => 0) (fun _ => 0) c_likes c_told (fun _ => 0) (-1 : Int32) 0 0 0 (fun _ => 0) (fun _ => 0) (fun _ => 0) (fun _ => 0) (fun _ => 0) (fun _ => 0) (fun _ => 0) (fun _ => 0) (fun _ => 0) (fun _ => 0) (-1 : Int32) 0 0 0 (fun _ => 0) (fun _ => 0) (fun _ => 0) (fun _ => 0) (fun _ => 0) (fun _ => 0) (fun _ => 0) (fun _ => 0) (fun _ => 0) (fun _ => 0) (-1 : Int32) 0 0 0 (fun _ => 0) (fun _ => 0) (fun _ => 0) (fun _ => 0) (fun _ => 0) (fun _ => 0) (fun _ => 0) (fun _ => 0) (fun _ => 0) (fun _ => 0) 0 0 (fun _ => 0) (fun _ => 0) (fun _ => 0) (fun _ => 0) (fun _ => 0) (fun _ => 0) 0 (fun _ => 0) (fun _ => 0) (-1 : Int32) 0 0 0 (fun _ => 0) (fun _ => 0) (fun _ => 0) 0 0 (fun _ => 0) (fun _ => 0) (fun _ => 0) (fun _ => 0) (fun _ => 0) 0 0 0 1 0 0 0 0 (fun _ => 0) (fun _ => 0) (fun _ => 0) (fun _ => 0) (fun _ => 0) (fun _ => 0) (fun _ => 0) (fun _ => 0) (fun _ => 0) (fun _ => 0) (fun _ => 0) (fun _ => 0) (fun _ => 0) (fun _ => 0) (fun _ => 0) (fun _ => 0) (fun _ => 0) (fun _ => 0) (fun _ => 0) (fun _ => 0) (fun _ => 0) := ⟨0, 0, fun _ => 0, fun _ _ => 0, fun _ _ => 0, hG, hB, hM, Or.inl rfl, Or.inl rfl, Or.inl rfl, hLo, rfl, rfl⟩
  have h := law_run (N := 40000) (c_a0 := xs) (Nat.le_refl _) hL 40000 0 (Nat.zero_le _) (by decide) h0
  rw [Nat.mul_zero, nI_0] at h
  exact h
end PUREPART
