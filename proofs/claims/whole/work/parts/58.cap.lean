/-! at most 1056 entries: counted -/
def co (s c v : Nat) : Nat := bif Nat.beq v (min s c) then 0 else s - v
def tm (s c b v : Nat) (f : Nat → Nat) : Nat := bif Nat.ble v (min s c) && Nat.ble (co s c v) b then f (b - co s c v) else 0
def cn (S : Nat → Nat) (c : Nat) : Nat → Nat → Nat
  | 0, b => bif Nat.ble b 8 then 1 else 0
  | q + 1, b => fb_sm (fun v => tm (S q) c b v (cn S c q)) 4
def rk (S : Nat → Nat) (c : Nat) (β : Nat → Nat) : Nat → Nat → Nat
  | 0, _ => 0
  | q + 1, b => fb_sm (fun v => tm (S q) c b v (cn S c q)) (β q) + rk S c β q (b - co (S q) c (β q))
def okB (S : Nat → Nat) (c : Nat) (β : Nat → Nat) (n b : Nat) : Prop := (∀ q, q < n → β q ≤ min (S q) c) ∧ fb_sm (fun q => co (S q) c (β q)) n ≤ b
theorem tm_yes {s c b v : Nat} {f : Nat → Nat} (h1 : v ≤ min s c) (h2 : co s c v ≤ b) : tm s c b v f = f (b - co s c v) := by
  unfold tm
  rw [Nat.ble_eq_true_of_le h1, Nat.ble_eq_true_of_le h2]
  rfl
theorem okB_step {S : Nat → Nat} {c n b : Nat} {β : Nat → Nat} (h : okB S c β (n + 1) b) : β n ≤ min (S n) c ∧ co (S n) c (β n) ≤ b ∧ okB S c β n (b - co (S n) c (β n)) := by
  obtain ⟨h1, h2⟩ := h
  rw [fb_sm_succ] at h2
  exact ⟨h1 n (by omega), by omega, fun q hq => h1 q (by omega), by omega⟩
theorem rk_lt {S : Nat → Nat} (hS : ∀ q, S q ≤ 3) {c : Nat} {β : Nat → Nat} : ∀ (n b : Nat), b ≤ 8 → okB S c β n b → rk S c β n b < cn S c n b
  | 0, b, h8, _ => by
    rw [rk, cn, Nat.ble_eq_true_of_le h8]
    exact Nat.one_pos
  | n + 1, b, h8, h => by
    obtain ⟨h1, h2, h3⟩ := okB_step h
    have ih := rk_lt hS n _ (by omega) h3
    rw [rk, cn]
    have h3 := hS n
    have hp := fb_sm_part (fun v => tm (S n) c b v (cn S c n)) (show β n < 4 by omega)
    rw [tm_yes h1 h2] at hp
    omega
theorem rk_inj {S : Nat → Nat} (hS : ∀ q, S q ≤ 3) {c : Nat} {β β' : Nat → Nat} : ∀ (n b : Nat), b ≤ 8 → okB S c β n b → okB S c β' n b → rk S c β n b = rk S c β' n b → ∀ q, q < n → β q = β' q
  | 0, b, _, _, _, _, q, hq => absurd hq (Nat.not_lt_zero q)
  | n + 1, b, h8, h, h', e, q, hq => by
    obtain ⟨h1, h2, h3⟩ := okB_step h
    obtain ⟨g1, g2, g3⟩ := okB_step h'
    have l1 := rk_lt hS n _ (by omega) h3
    have l2 := rk_lt hS n _ (by omega) g3
    rw [rk, rk] at e
    have key : β n = β' n := by
      rcases Nat.lt_trichotomy (β n) (β' n) with z | z | z
      · have hp := fb_sm_part (fun v => tm (S n) c b v (cn S c n)) z
        rw [tm_yes h1 h2] at hp
        omega
      · exact z
      · have hp := fb_sm_part (fun v => tm (S n) c b v (cn S c n)) z
        rw [tm_yes g1 g2] at hp
        omega
    rw [key] at e h3
    rcases Nat.lt_or_ge q n with z | z
    · exact rk_inj hS n _ (by omega) h3 g3 (by omega) q z
    · rw [show q = n by omega]; exact key
/-- reached states of a level -/
def RS (S : Nat → Nat) (t : Nat → Nat) (k s : Nat) : Prop := ∃ σ : Sv, (∀ q, q < 6 → σ q ≤ S q) ∧ fb_sm (fun q => S q - σ q) 6 ≤ k ∧ s < 4096 ∧ ∀ q, q < 6 → d4 s q = min (σ q) (t q)
theorem RS_ok {S t : Nat → Nat} {k s : Nat} (ht : ∀ q, q < 6 → t q ≤ 8 - k) (h : RS S t k s) : ∃ β : Nat → Nat, okB S (8 - k) β 6 k ∧ s < 4096 ∧ ∀ q, q < 6 → d4 s q = min (β q) (t q) := by
  obtain ⟨σ, h1, h2, h3, h4⟩ := h
  refine ⟨fun q => min (σ q) (8 - k), ⟨fun q hq => ?_, Nat.le_trans (fb_sm_le (fun q hq => ?_)) h2⟩, h3, fun q hq => ?_⟩
  · have := h1 q hq
    simp only
    omega
  · have := h1 q hq
    simp only
    unfold co
    cases hb : Nat.beq (min (σ q) (8 - k)) (min (S q) (8 - k)) with
    | true => exact Nat.zero_le _
    | false =>
      have e : min (σ q) (8 - k) ≠ min (S q) (8 - k) := Nat.ne_of_beq_eq_false hb
      simp only [cond_false]
      omega
  · have := ht q hq
    rw [h4 q hq]
    simp only
    omega
theorem pick {α : Type} {n : Nat} {R : Nat → α → Prop} (d : α) (h : ∀ i, i < n → ∃ a, R i a) : ∃ f : Nat → α, ∀ i, i < n → R i (f i) := by
  refine ⟨fun i => if hi : i < n then Classical.choose (h i hi) else d, fun i hi => ?_⟩
  simp only
  rw [dif_pos hi]
  exact Classical.choose_spec (h i hi)
theorem level_le {S t : Nat → Nat} {k n : Nat} {f : Nat → Nat} (hS : ∀ q, S q ≤ 3) (hk : k ≤ 8) (ht : ∀ q, q < 6 → t q ≤ 8 - k) (h : ∀ i, i < n → RS S t k (f i)) (h2 : ∀ i j, i < j → j < n → f i ≠ f j) : n ≤ cn S (8 - k) 6 k := by
  obtain ⟨β, hβ⟩ := pick (fun _ => 0) (fun i hi => RS_ok ht (h i hi))
  refine fb_holes _ n (fun i => rk S (8 - k) (β i) 6 k) (fun i hi => rk_lt hS 6 k hk (hβ i hi).1) (fun i j hij hj e => ?_)
  have e2 := rk_inj hS 6 k hk (hβ i (by omega)).1 (hβ j hj).1 e
  refine h2 i j hij hj (d4_inj 6 _ _ (hβ i (by omega)).2.1 (hβ j hj).2.1 (fun q hq => ?_))
  rw [(hβ i (by omega)).2.2 q hq, (hβ j hj).2.2 q hq, e2 q hq]
/-! the counting itself: counts as digits to the base X of a product -/
def XX : Nat := 65536
def pz (f : Nat → Nat) (J : Nat) : Nat := fb_sm (fun j => f j * XX ^ j) J
def mu (s c : Nat) : Nat := fb_sm (fun v => bif Nat.ble v (min s c) then XX ^ co s c v else 0) 4
theorem fb_sm_mulR (f : Nat → Nat) (a : Nat) : ∀ n, fb_sm (fun k => f k * a) n = fb_sm f n * a
  | 0 => (Nat.zero_mul a).symm
  | n + 1 => by rw [fb_sm_succ, fb_sm_succ, fb_sm_mulR f a n, Nat.add_mul]
theorem pz_zero {f : Nat → Nat} {J : Nat} (h : ∀ j, J ≤ j → f j = 0) (d : Nat) : pz f (J + d) = pz f J := by
  unfold pz
  have e : fb_sm (fun k => f (J + k) * XX ^ (J + k)) d = 0 := fb_sm_zero_of (fun k _ => by rw [h (J + k) (by omega), Nat.zero_mul])
  rw [fb_sm_split, e]
  rfl
theorem co_le {s c v : Nat} (hs : s ≤ 3) : co s c v ≤ 3 := by
  unfold co
  cases Nat.beq v (min s c)
  · simp only [cond_false]; omega
  · exact Nat.zero_le _
theorem pz_tm {f : Nat → Nat} {J s c v : Nat} (hs : s ≤ 3) (h : ∀ j, J ≤ j → f j = 0) : pz (fun j => tm s c j v f) (J + 3) = pz f J * (bif Nat.ble v (min s c) then XX ^ co s c v else 0) := by
  have hc := co_le (c := c) (v := v) hs
  cases hb : Nat.ble v (min s c) with
  | false =>
    rw [cond_false, Nat.mul_zero]
    unfold pz
    refine fb_sm_zero_of (fun j _ => ?_)
    unfold tm
    rw [hb]
    exact Nat.zero_mul _
  | true =>
    rw [cond_true]
    generalize hcc : co s c v = d at hc ⊢
    have e : pz (fun j => tm s c j v f) (J + 3) = pz (fun j => tm s c j v f) (d + (J + (3 - d))) := by congr 1; omega
    rw [e]
    have z : pz (fun j => tm s c j v f) (d + (J + (3 - d))) = fb_sm (fun k => (fun j => f j * XX ^ j) k * XX ^ d) (J + (3 - d)) := by
      unfold pz
      rw [fb_sm_split, fb_sm_zero_of (fun j hj => ?_), Nat.zero_add]
      · refine fb_sm_cong (fun k _ => ?_)
        unfold tm
        rw [hb, hcc]
        show (bif true && Nat.ble d (d + k) then f (d + k - d) else 0) * XX ^ (d + k) = f k * XX ^ k * XX ^ d
        rw [Nat.ble_eq_true_of_le (show d ≤ d + k by omega), show d + k - d = k by omega, Nat.pow_add]
        simp only [Bool.and_self, cond_true]
        rw [Nat.mul_comm (XX ^ d), Nat.mul_assoc]
      · unfold tm
        rw [hb, hcc]
        show (bif true && Nat.ble d j then f (j - d) else 0) * XX ^ j = 0
        rw [show Nat.ble d j = false from by
          cases hx : Nat.ble d j with
          | false => rfl
          | true => have := Nat.le_of_ble_eq_true hx; omega]
        exact Nat.zero_mul _
    rw [z, fb_sm_mulR]
    exact congrArg (fun x => x * XX ^ d) (pz_zero h (3 - d))
theorem pz_add (f g : Nat → Nat) (J : Nat) : pz (fun j => f j + g j) J = pz f J + pz g J := by
  unfold pz
  rw [← fb_sm_add]
  exact fb_sm_cong (fun k _ => Nat.add_mul _ _ _)
theorem pz_sum (F : Nat → Nat → Nat) (J : Nat) : ∀ n, pz (fun j => fb_sm (fun v => F v j) n) J = fb_sm (fun v => pz (F v) J) n
  | 0 => fb_sm_zero_of (fun j _ => Nat.zero_mul _)
  | n + 1 => by
    rw [fb_sm_succ, ← pz_sum F J n, ← pz_add]
    rfl
theorem fb_sm_mulL (f : Nat → Nat) (a : Nat) : ∀ n, fb_sm (fun k => a * f k) n = a * fb_sm f n
  | 0 => (Nat.mul_zero a).symm
  | n + 1 => by rw [fb_sm_succ, fb_sm_succ, fb_sm_mulL f a n, Nat.mul_add]
theorem cn_out {S : Nat → Nat} (hS : ∀ q, S q ≤ 3) (c : Nat) : ∀ (q j : Nat), 9 + 3 * q ≤ j → cn S c q j = 0
  | 0, j, h => by
    rw [cn]
    cases hx : Nat.ble j 8 with
    | false => rfl
    | true => have := Nat.le_of_ble_eq_true hx; omega
  | q + 1, j, h => by
    rw [cn]
    refine fb_sm_zero_of (fun v _ => ?_)
    have := co_le (c := c) (v := v) (hS q)
    unfold tm
    rw [cn_out hS c q _ (by omega)]
    cases (Nat.ble v (min (S q) c) && Nat.ble (co (S q) c v) j) <;> rfl
def prd (S : Nat → Nat) (c : Nat) : Nat → Nat
  | 0 => pz (fun j => bif Nat.ble j 8 then 1 else 0) 9
  | q + 1 => prd S c q * mu (S q) c
theorem prd_pz {S : Nat → Nat} (hS : ∀ q, S q ≤ 3) (c : Nat) : ∀ q, prd S c q = pz (cn S c q) (9 + 3 * q)
  | 0 => rfl
  | q + 1 => by
    rw [prd, prd_pz hS c q, show 9 + 3 * (q + 1) = 9 + 3 * q + 3 by omega]
    have e : pz (cn S c (q + 1)) (9 + 3 * q + 3) = fb_sm (fun v => pz (fun j => tm (S q) c j v (cn S c q)) (9 + 3 * q + 3)) 4 := pz_sum (fun v j => tm (S q) c j v (cn S c q)) (9 + 3 * q + 3) 4
    rw [e]
    unfold mu
    rw [← fb_sm_mulL]
    exact fb_sm_cong (fun v _ => (pz_tm (hS q) (fun j hj => cn_out hS c q j hj)).symm)
theorem cn_le {S : Nat → Nat} (c : Nat) : ∀ (q j : Nat), cn S c q j ≤ 4 ^ q
  | 0, j => by
    rw [cn]
    cases Nat.ble j 8
    · exact Nat.zero_le _
    · exact Nat.le_refl _
  | q + 1, j => by
    rw [cn, Nat.pow_succ, Nat.mul_comm]
    refine fb_sm_bound (fun v _ => ?_)
    unfold tm
    cases (Nat.ble v (min (S q) c) && Nat.ble (co (S q) c v) j)
    · exact Nat.zero_le _
    · exact cn_le c q _
theorem pz_lt {f : Nat → Nat} (h : ∀ j, f j < XX) : ∀ J, pz f J < XX ^ J
  | 0 => Nat.one_pos
  | J + 1 => by
    have ih := pz_lt h J
    unfold pz at ih ⊢
    rw [fb_sm_succ, Nat.pow_succ]
    have : f J * XX ^ J ≤ (XX - 1) * XX ^ J := Nat.mul_le_mul_right _ (by have := h J; omega)
    have e : XX ^ J * XX = (XX - 1) * XX ^ J + XX ^ J := by
      rw [Nat.sub_mul, Nat.one_mul, Nat.mul_comm]
      have : XX ^ J ≤ XX * XX ^ J := Nat.le_mul_of_pos_left _ (by decide)
      omega
    omega
theorem pz_dig {f : Nat → Nat} (h : ∀ j, f j < XX) : ∀ (J j : Nat), j < J → pz f J / XX ^ j % XX = f j
  | 0, j, hj => absurd hj (Nat.not_lt_zero j)
  | J + 1, j, hj => by
    have hl := pz_lt h J
    have e : pz f (J + 1) = pz f J + f J * XX ^ J := rfl
    rw [e]
    rcases Nat.lt_or_ge j J with z | z
    · have ih := pz_dig h J j z
      obtain ⟨d, hd⟩ : ∃ d, J = j + 1 + d := ⟨J - (j + 1), by omega⟩
      have e2 : f J * XX ^ J = XX ^ j * (XX * (f J * XX ^ d)) := by
        rw [hd, Nat.pow_add, Nat.pow_succ]
        simp only [Nat.mul_left_comm, Nat.mul_assoc, Nat.mul_comm]
      rw [e2, Nat.add_mul_div_left _ _ (Nat.pow_pos (by decide)), Nat.add_mul_mod_self_left]
      exact ih
    · have : j = J := by omega
      subst this
      rw [Nat.add_mul_div_right _ _ (Nat.pow_pos (by decide)), Nat.div_eq_of_lt hl, Nat.zero_add, Nat.mod_eq_of_lt (h j)]
theorem cn_dig {S : Nat → Nat} (hS : ∀ q, S q ≤ 3) (c : Nat) {k : Nat} (hk : k ≤ 8) : prd S c 6 / XX ^ k % XX = cn S c 6 k := by
  rw [prd_pz hS c 6]
  exact pz_dig (fun j => Nat.lt_of_le_of_lt (cn_le c 6 j) (by decide)) _ _ (by omega)
def rows4 (s : Nat) : List Nat := [mu s 8, mu s 7, mu s 6, mu s 5, mu s 4, mu s 3, mu s 2, mu s 1, mu s 0]
def prds (S : Nat → Nat) (n : Nat) : List Nat := [prd S 8 n, prd S 7 n, prd S 6 n, prd S 5 n, prd S 4 n, prd S 3 n, prd S 2 n, prd S 1 n, prd S 0 n]
def dsum : Nat → List Nat → Nat
  | _, [] => 0
  | k, L :: t => L / XX ^ k % XX + dsum (k + 1) t
def frc (n : Nat) (k : Nat → Bool) : Bool := Nat.rec (k 0) (fun m _ => k (m + 1)) n
theorem frc_eq (n : Nat) (k : Nat → Bool) : frc n k = k n := by cases n <;> rfl
def frcL : List Nat → List Nat → (List Nat → Bool) → Bool
  | a :: s, b :: t, k => frcL s t (fun r => frc (a * b) (fun x => k (x :: r)))
  | _, _, k => k []
theorem frcL_eq : ∀ (s t : List Nat) (k : List Nat → Bool), frcL s t k = k (List.zipWith (fun a b => a * b) s t)
  | a :: s, b :: t, k => by rw [frcL, frcL_eq s t, frc_eq]; rfl
  | [], _, k => by rw [frcL]; rfl; intros; simp_all
  | _ :: _, [], k => by rw [frcL]; rfl; intros; simp_all
def rowsN : List (List Nat) := [rows4 0, rows4 1, rows4 2, rows4 3]
def chk (r0 r1 r2 r3 : List Nat) : Nat → List Nat → Bool
  | 0, Ls => Nat.ble (dsum 0 Ls) 1056
  | n + 1, Ls => frcL Ls r0 (chk r0 r1 r2 r3 n) && (frcL Ls r1 (chk r0 r1 r2 r3 n) && (frcL Ls r2 (chk r0 r1 r2 r3 n) && frcL Ls r3 (chk r0 r1 r2 r3 n)))
theorem chk_ok {S : Nat → Nat} (hS : ∀ q, S q ≤ 3) : ∀ (n j : Nat), chk (rows4 0) (rows4 1) (rows4 2) (rows4 3) n (prds S j) = true → dsum 0 (prds S (j + n)) ≤ 1056
  | 0, j, h => Nat.le_of_ble_eq_true h
  | n + 1, j, h => by
    rw [chk, Bool.and_eq_true, Bool.and_eq_true, Bool.and_eq_true, frcL_eq, frcL_eq, frcL_eq, frcL_eq] at h
    obtain ⟨h0, h1, h2, h3⟩ := h
    have hs := hS j
    have e : List.zipWith (fun a b => a * b) (prds S j) (rows4 (S j)) = prds S (j + 1) := rfl
    rw [show j + (n + 1) = j + 1 + n by omega]
    refine chk_ok hS n (j + 1) ?_
    rw [← e]
    have : S j = 0 ∨ S j = 1 ∨ S j = 2 ∨ S j = 3 := by omega
    generalize S j = x at this ⊢
    rcases this with rfl | rfl | rfl | rfl
    · exact h0
    · exact h1
    · exact h2
    · exact h3
def base0 : Nat := 340287559297026369749534115703797383169
set_option maxRecDepth 100000 in
theorem base0_eq : pz (fun j => bif Nat.ble j 8 then 1 else 0) 9 = base0 := by decide +kernel
theorem rows_0 : rows4 0 = [1, 1, 1, 1, 1, 1, 1, 1, 1] := by decide +kernel
theorem rows_1 : rows4 1 = [65537, 65537, 65537, 65537, 65537, 65537, 65537, 65537, 1] := by decide +kernel
theorem rows_2 : rows4 2 = [4295032833, 4295032833, 4295032833, 4295032833, 4295032833, 4295032833, 4295032833, 4294967297, 1] := by decide +kernel
theorem rows_3 : rows4 3 = [281479271743489, 281479271743489, 281479271743489, 281479271743489, 281479271743489, 281479271743489, 281479271677953, 281474976710657, 1] := by decide +kernel
set_option maxRecDepth 100000 in
set_option maxHeartbeats 0 in
theorem chk_6 : chk [1, 1, 1, 1, 1, 1, 1, 1, 1] [65537, 65537, 65537, 65537, 65537, 65537, 65537, 65537, 1] [4295032833, 4295032833, 4295032833, 4295032833, 4295032833, 4295032833, 4295032833, 4294967297, 1] [281479271743489, 281479271743489, 281479271743489, 281479271743489, 281479271743489, 281479271743489, 281479271677953, 281474976710657, 1] 6 [340287559297026369749534115703797383169, 340287559297026369749534115703797383169, 340287559297026369749534115703797383169, 340287559297026369749534115703797383169, 340287559297026369749534115703797383169, 340287559297026369749534115703797383169, 340287559297026369749534115703797383169, 340287559297026369749534115703797383169, 340287559297026369749534115703797383169] = true := by decide +kernel
def cnts (S : Nat → Nat) (k : Nat) : Nat := cn S (8 - k) 6 k
theorem cap_all {S : Nat → Nat} (hS : ∀ q, S q ≤ 3) : fb_sm (cnts S) 9 ≤ 1056 := by
  have h := chk_ok hS 6 0 (by
    rw [rows_0, rows_1, rows_2, rows_3]
    have e : prds S 0 = [340287559297026369749534115703797383169, 340287559297026369749534115703797383169, 340287559297026369749534115703797383169, 340287559297026369749534115703797383169, 340287559297026369749534115703797383169, 340287559297026369749534115703797383169, 340287559297026369749534115703797383169, 340287559297026369749534115703797383169, 340287559297026369749534115703797383169] := by
      unfold prds prd
      rw [base0_eq]
      rfl
    rw [e]
    exact chk_6)
  have e : dsum 0 (prds S (0 + 6)) = fb_sm (cnts S) 9 := by
    unfold prds dsum dsum dsum dsum dsum dsum dsum dsum dsum dsum
    rw [cn_dig hS _ (by omega), cn_dig hS _ (by omega), cn_dig hS _ (by omega), cn_dig hS _ (by omega), cn_dig hS _ (by omega), cn_dig hS _ (by omega), cn_dig hS _ (by omega), cn_dig hS _ (by omega), cn_dig hS _ (by omega)]
    rw [fb_sm_succ, fb_sm_succ, fb_sm_succ, fb_sm_succ, fb_sm_succ, fb_sm_succ, fb_sm_succ, fb_sm_succ, fb_sm_succ]
    show _ = 0 + _ + _ + _ + _ + _ + _ + _ + _ + _
    unfold cnts
    simp only [Nat.reduceSub, Nat.zero_add, Nat.reduceAdd]
    omega
  omega
/-- levels one behind another -/
theorem cap_sum {S : Nat → Nat} (hS : ∀ q, S q ≤ 3) {fst : Nat → Nat} (h0 : fst 0 = 0) {m : Nat} (hm : m ≤ 9) (h : ∀ k, k < m → fst (k + 1) ≤ fst k + cnts S k) : fst m ≤ 1056 := by
  have h1 : ∀ k, k ≤ m → fst k ≤ fb_sm (cnts S) k := by
    intro k
    induction k with
    | zero => intro _; rw [h0]; exact Nat.zero_le _
    | succ k ih =>
      intro hk
      have := ih (by omega)
      have := h k (by omega)
      rw [fb_sm_succ]; omega
  have h2 := fb_sm_mono (cnts S) m (9 - m)
  rw [show m + (9 - m) = 9 by omega] at h2
  have := cap_all hS
  have := h1 m (Nat.le_refl _)
  omega
