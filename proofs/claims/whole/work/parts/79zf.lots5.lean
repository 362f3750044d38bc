/-! LOTS5: the reference's counting: sums over what is pending -/
section LOTS5
def psum (v g : Nat → Nat) : Nat → Nat → Nat
  | _, 0 => 0
  | lo, n + 1 => v lo * g lo + psum v g (lo + 1) n
def addAt (v : Nat → Nat) (j w : Nat) : Nat → Nat := fun i => if i = j then v i + w else v i
theorem psum_out {v g : Nat → Nat} {j w : Nat} : ∀ (n lo : Nat), j < lo → psum (addAt v j w) g lo n = psum v g lo n
  | 0, _, _ => rfl
  | n + 1, lo, h => by
    rw [psum, psum, psum_out n (lo + 1) (by omega), show addAt v j w lo = v lo from if_neg (by omega)]
theorem psum_add {v g : Nat → Nat} {j w : Nat} : ∀ (n lo : Nat), lo ≤ j → j < lo + n → psum (addAt v j w) g lo n = psum v g lo n + w * g j
  | 0, lo, h1, h2 => by omega
  | n + 1, lo, h1, h2 => by
    rw [psum, psum]
    rcases Nat.eq_or_lt_of_le h1 with e | e
    · subst e
      rw [psum_out n _ (by omega), show addAt v lo w lo = v lo + w from if_pos rfl, Nat.add_mul]
      omega
    · rw [psum_add n (lo + 1) e (by omega), show addAt v j w lo = v lo from if_neg (by omega)]
      omega
theorem psum_skip {v g : Nat → Nat} : ∀ (d lo n : Nat), (∀ j, lo ≤ j → j < lo + d → v j = 0) → psum v g lo (d + n) = psum v g (lo + d) n
  | 0, lo, n, _ => by rw [Nat.zero_add]; rfl
  | d + 1, lo, n, h => by
    rw [show d + 1 + n = (d + n) + 1 by omega, psum, h lo (by omega) (by omega), psum_skip d (lo + 1) n (fun j h1 h2 => h j (by omega) (by omega)), Nat.zero_mul, Nat.zero_add, show lo + 1 + d = lo + (d + 1) by omega]
theorem psum_zero {g : Nat → Nat} : ∀ (n lo : Nat), psum (fun _ => 0) g lo n = 0
  | 0, _ => rfl
  | n + 1, lo => by rw [psum, psum_zero n, Nat.zero_mul]
theorem psum_head {v g : Nat → Nat} {lo T : Nat} (h : lo < T) : psum v g lo (T - lo) = v lo * g lo + psum v g (lo + 1) (T - (lo + 1)) := by
  rw [show T - lo = (T - (lo + 1)) + 1 by omega, psum]
theorem lsum_add (f g : Nat → Nat) : ∀ n, lsum f n + lsum g n = lsum (fun a => f a + g a) n
  | 0 => rfl
  | n + 1 => by rw [lsum, lsum, lsum, ← lsum_add f g n]; omega
variable {K P : Nat} {S : Nat → Nat} {W : Nat → Nat → Nat}
/-- the state after a has taken -/
def tks (S : Nat → Nat) (W : Nat → Nat → Nat) (P a s : Nat) : Nat := match po (W a) (dig S s) P with
  | 0 => s
  | q + 1 => s - wgt S q
theorem tks_dig (hP : P ≤ 6) {a s : Nat} : dig S (tks S W P a s) = tkL (W a) (dig S s) P := by
  have hb := po_best (W a) (dig S s) P hP
  unfold tks tkL
  generalize po (W a) (dig S s) P = o at hb
  cases o with
  | zero => rfl
  | succ q => exact dig_sub hb.2.2.1
theorem tks_le {a s : Nat} : tks S W P a s ≤ s := by
  unfold tks
  cases po (W a) (dig S s) P with
  | zero => exact Nat.le_refl _
  | succ q => exact Nat.sub_le _ _
theorem tks_oN (hP : P ≤ 6) {a s : Nat} : oN (tkS S W a (po (W a) (dig S s) P) s) = nI (tks S W P a s) := by
  have hb := po_best (W a) (dig S s) P hP
  unfold tks
  generalize po (W a) (dig S s) P = o at hb
  cases o with
  | zero => rfl
  | succ q =>
    show oN (if 0 < W a q ∧ 0 < dig S s q then some (s - wgt S q) else none) = nI (s - wgt S q)
    rw [if_pos ⟨hb.2.1, hb.2.2.1⟩]
    rfl
/-- what a pending entry is worth -/
def gL (K P : Nat) (S : Nat → Nat) (W : Nat → Nat → Nat) (x y : Nat) (i : Nat) : Nat :=
  if bt (i / 4096) x = 0 then lF K P W x y (cnL K (i / 4096)) (i / 4096) (dig S (i % 4096)) else 0
def gB (K : Nat) (i : Nat) : Nat := fac (cnL K (i / 4096))
theorem ix_div {g s : Nat} (hs : s < 4096) : (4096 * g + s) / 4096 = g := by omega
theorem ix_mod {g s : Nat} (hs : s < 4096) : (4096 * g + s) % 4096 = s := by omega
/-- what an entry hands on, a by a -/
def cg (S : Nat → Nat) (W : Nat → Nat → Nat) (P g s : Nat) (h : Nat → Nat) (a : Nat) : Nat := if bt g a = 0 then h (4096 * (g ||| 2 ^ a) + tks S W P a s) else 0
def cx (S : Nat → Nat) (W : Nat → Nat → Nat) (K P x y g s a : Nat) : Nat := if bt g a = 0 then (if a = x then (if po (W a) (dig S s) P = y + 1 then fac (cnL K g - 1) else 0) else 0) else 0
theorem gL_step (hP : P ≤ 6) {x y g s : Nat} (hs : s < 4096) : lsum (cx S W K P x y g s) K + lsum (cg S W P g s (gL K P S W x y)) K = gL K P S W x y (4096 * g + s) := by
  rw [lsum_add]
  unfold gL
  rw [ix_div hs, ix_mod hs]
  by_cases hx : bt g x = 0
  · rw [if_pos hx]
    have hF : lF K P W x y (cnL K g) g (dig S s) = lsum (fun a => if bt g a = 0 then (if a = x then (if po (W a) (dig S s) P = y + 1 then fac (cnL K g - 1) else 0) else lF K P W x y (cnL K g - 1) (g ||| 2 ^ a) (tkL (W a) (dig S s) P)) else 0) K := by
      cases hc : cnL K g with
      | zero =>
        refine (lsum_zero (fun a ha => if_neg (fun hb => ?_))).symm
        have := cnL_set ha hb
        omega
      | succ n => rfl
    rw [hF]
    refine lsum_cong (fun a ha => ?_)
    unfold cx cg
    by_cases hb : bt g a = 0
    · have hlt : tks S W P a s < 4096 := Nat.lt_of_le_of_lt tks_le hs
      rw [if_pos hb, if_pos hb, if_pos hb]
      simp only
      rw [ix_div hlt, ix_mod hlt]
      have hbs := bt_set g a x
      by_cases hax : a = x
      · rw [if_pos hax.symm] at hbs
        rw [if_pos hax, if_pos hax, hbs, if_neg (show ¬ (1 : Nat) = 0 by decide), Nat.add_zero]
      · have := cnL_set ha hb
        rw [if_neg (fun h => hax h.symm), hx] at hbs
        rw [if_neg hax, if_neg hax, if_pos hbs, tks_dig hP, Nat.zero_add, show cnL K (g ||| 2 ^ a) = cnL K g - 1 by omega]
    · rw [if_neg hb, if_neg hb, if_neg hb]
  · rw [if_neg hx]
    refine lsum_zero (fun a ha => ?_)
    unfold cx cg
    by_cases hb : bt g a = 0
    · have hlt : tks S W P a s < 4096 := Nat.lt_of_le_of_lt tks_le hs
      have hax : ¬ a = x := fun h => hx (by rw [← h]; exact hb)
      rw [if_pos hb, if_pos hb, if_neg hax]
      simp only
      have hbs := bt_set g a x
      rw [if_neg (fun h => hax h.symm)] at hbs
      rw [ix_div hlt, hbs, if_neg hx]
    · rw [if_neg hb, if_neg hb]
theorem lsum_const (f : Nat → Nat) (c : Nat) : ∀ n, lsum (fun a => f a * c) n = lsum f n * c
  | 0 => (Nat.zero_mul _).symm
  | n + 1 => by rw [lsum, lsum, lsum_const f c n, Nat.add_mul]
theorem gB_step {g s : Nat} (hs : s < 4096) : lsum (cg S W P g s (gB K)) K ≤ gB K (4096 * g + s) := by
  have e : lsum (cg S W P g s (gB K)) K = lsum (fun a => (1 - bt g a) * fac (cnL K g - 1)) K := lsum_cong (fun a ha => by
    unfold cg
    by_cases hb : bt g a = 0
    · have hlt : tks S W P a s < 4096 := Nat.lt_of_le_of_lt tks_le hs
      have := cnL_set ha hb
      rw [if_pos hb, hb, Nat.one_mul]
      unfold gB
      rw [ix_div hlt, show cnL K (g ||| 2 ^ a) = cnL K g - 1 by omega]
    · have := bt_lt g a
      rw [if_neg hb, show 1 - bt g a = 0 by omega, Nat.zero_mul])
  rw [e, lsum_const]
  unfold gB
  rw [ix_div hs]
  show cnL K g * fac (cnL K g - 1) ≤ fac (cnL K g)
  cases cnL K g with
  | zero => rw [Nat.zero_mul]; exact Nat.zero_le _
  | succ n => exact Nat.le_refl _
theorem fac_pos : ∀ n, 1 ≤ fac n
  | 0 => Nat.le_refl _
  | n + 1 => Nat.mul_pos (Nat.succ_pos _) (fac_pos n)
end LOTS5
