/-! LOTS1: whom a member takes, by the seats left -/
section LOTS1
variable {N K P : Nat} {W : Nat → Nat → Nat}
theorem lt_2 {cl : Nat → Int32} {a : Nat} (ha : a < 8) {L : Nat} (hL : L < 4096) (hP : P ≤ 6) {m o : Nat} (hm : m ≤ 6) (h1 : ∀ i, i < m → ∃ q, q < P ∧ cl (a * 6 + i) = nI q ∧ ¬ 0 < d4 L q) (h2 : (m = 6 ∧ o = 0) ∨ (m < 6 ∧ cl (a * 6 + m) = oI o)) (ho : ∀ q, o = q + 1 → q < P ∧ 0 < d4 L q) :
    ∀ (n i : Nat), i ≤ m → m - i < n → f_X2_takes_2 N cl n (nI a) (nI L) (nI i) = some (oI o) := by
  intro n
  induction n with
  | zero => intro i h1 h2; omega
  | succ n ih =>
    intro i hi hn
    rw [f_X2_takes_2]
    unfold f_X0_likeAt
    have hd : ∀ q, d4 L q < 4 := fun q => Nat.mod_lt _ (by decide)
    rcases Nat.eq_or_lt_of_le hi with e | e
    · subst e
      rcases h2 with ⟨h6, h0⟩ | ⟨h6, hc⟩
      · rw [h6, h0, if_pos (show (6 : Int32) ≤ nI 6 from by decide), oI_0]
      · rw [if_neg (show ¬ (6 : Int32) ≤ nI i from nI_ge (b := 6) h6 (by decide)), ix6, rdI_n _ (by omega) (by decide), bd, bd, hc]
        cases o with
        | zero => rw [if_pos oI_0]
        | succ q =>
          obtain ⟨q1, q2⟩ := ho q rfl
          rw [oI_s, if_neg (nI_neg1 (by omega)), dig4 (by omega) hL, if_neg (by rw [q_le0 (by have := hd q; omega)]; omega)]
    · obtain ⟨q, q1, q2, q3⟩ := h1 i e
      rw [if_neg (show ¬ (6 : Int32) ≤ nI i from nI_ge (b := 6) (by omega) (by decide)), ix6, rdI_n _ (by omega) (by decide), bd, bd, q2, if_neg (nI_neg1 (by omega)), dig4 (by omega) hL, if_pos (by rw [q_le0 (by have := hd q; omega)]; omega), nI_1]
      exact ih (i + 1) (by omega) (by omega)
theorem X2_takes_ok (hN : 40000 ≤ N) (hP : P ≤ 6) (hW : ∀ a q, W a q ≤ 6) {cl : Nat → Int32} (hl : LikesOk P W cl) {L : Nat} (hL : L < 4096) {a : Nat} (ha : a < 8) {o : Nat} (hb : bestOf P (W a) (fun q => 0 < d4 L q) o) : f_X2_takes N cl (nI a) (nI L) = some (oI o) := by
  obtain ⟨m, hm, h1, h2⟩ := LK_walk (hW a) (hl a ha) (fun q => 0 < d4 L q) hb hP
  exact lt_2 ha hL hP hm h1 h2 (fun q hq => by subst hq; exact ⟨hb.1, hb.2.2.1⟩) N 0 (Nat.zero_le _) (by omega)
end LOTS1
