/-! LOTS3: in how many orders one takes a place; the class's counting -/
section LOTS3
def po (w : Nat → Nat) (σ : Sv) : Nat → Nat
  | 0 => 0
  | q + 1 => if 0 < w q ∧ 0 < σ q then (match po w σ q with | 0 => q + 1 | p + 1 => if w p ≤ w q then p + 1 else q + 1) else po w σ q
theorem po_best (w : Nat → Nat) (σ : Sv) : ∀ P, P ≤ 6 → bestOf P w (fun q => 0 < σ q) (po w σ P)
  | 0, _ => fun q hq => absurd hq (Nat.not_lt_zero q)
  | q + 1, h => by
    have ih := po_best w σ q (by omega)
    rw [po]
    by_cases hc : 0 < w q ∧ 0 < σ q
    · rw [if_pos hc]
      generalize po w σ q = o at ih ⊢
      cases o with
      | zero => exact best_take (by omega) ih hc.1 hc.2 (fun p hp => by cases hp)
      | succ p =>
        show bestOf (q + 1) w (fun q => 0 < σ q) (if w p ≤ w q then p + 1 else q + 1)
        by_cases hl : w p ≤ w q
        · rw [if_pos hl]; exact best_skip (by omega) ih (fun _ _ => ⟨p, rfl, hl⟩)
        · rw [if_neg hl]; exact best_take (by omega) ih hc.1 hc.2 (fun p' hp => by have : p = p' := by omega
                                                                                   subst this; omega)
    · rw [if_neg hc]
      exact best_skip (by omega) ih (fun z1 z2 => absurd ⟨z1, z2⟩ hc)
def tkL (w : Nat → Nat) (σ : Sv) (P : Nat) : Sv := match po w σ P with
  | 0 => σ
  | q + 1 => dec σ q
def lsum (f : Nat → Nat) : Nat → Nat
  | 0 => 0
  | n + 1 => lsum f n + f n
def fac : Nat → Nat
  | 0 => 1
  | n + 1 => (n + 1) * fac n
theorem lsum_zero {f : Nat → Nat} : ∀ {n : Nat}, (∀ a, a < n → f a = 0) → lsum f n = 0
  | 0, _ => rfl
  | n + 1, h => by rw [lsum, lsum_zero (fun a ha => h a (by omega)), h n (by omega)]
theorem lsum_cong {f g : Nat → Nat} : ∀ {n : Nat}, (∀ a, a < n → f a = g a) → lsum f n = lsum g n
  | 0, _ => rfl
  | n + 1, h => by rw [lsum, lsum, lsum_cong (fun a ha => h a (by omega)), h n (by omega)]
theorem lsum_mono (f : Nat → Nat) {m n : Nat} (h : m ≤ n) : lsum f m ≤ lsum f n := by
  obtain ⟨d, rfl⟩ : ∃ d, n = m + d := ⟨n - m, by omega⟩
  clear h
  induction d with
  | zero => exact Nat.le_refl _
  | succ d ih => exact Nat.le_trans ih (Nat.le_add_right _ _)
/-- how many are not gone -/
def cnL (K g : Nat) : Nat := lsum (fun a => 1 - bt g a) K
theorem cnL_set {K g a : Nat} (ha : a < K) (hb : bt g a = 0) : cnL K g = cnL K (g ||| 2 ^ a) + 1 := by
  unfold cnL
  induction K with
  | zero => omega
  | succ K ih =>
    rw [lsum, lsum]
    rcases Nat.eq_or_lt_of_le (Nat.le_of_lt_succ ha) with e | e
    · subst e
      rw [bt_set, if_pos rfl, hb, lsum_cong (g := fun i => 1 - bt (g ||| 2 ^ a) i) (fun i hi => by rw [bt_set, if_neg (by omega)])]
    · rw [ih e, bt_set, if_neg (by omega)]
      omega
/-- the orders of those not gone in which x takes y -/
def lF (K P : Nat) (W : Nat → Nat → Nat) (x y : Nat) : Nat → Nat → Sv → Nat
  | 0, _, _ => 0
  | n + 1, g, σ => lsum (fun a => if bt g a = 0 then (if a = x then (if po (W a) σ P = y + 1 then fac n else 0) else lF K P W x y n (g ||| 2 ^ a) (tkL (W a) σ P)) else 0) K
variable {K P : Nat} {W : Nat → Nat → Nat}
theorem dec_le (σ : Sv) (q j : Nat) : dec σ q j ≤ σ j := by
  unfold dec
  split <;> omega
theorem tkL_le (w : Nat → Nat) (σ : Sv) (P j : Nat) : tkL w σ P j ≤ σ j := by
  unfold tkL
  cases po w σ P with
  | zero => exact Nat.le_refl _
  | succ q => exact dec_le _ _ _
theorem lF_zero (hP : P ≤ 6) {x y : Nat} : ∀ (n g : Nat) (σ : Sv), σ y = 0 → lF K P W x y n g σ = 0
  | 0, _, _, _ => rfl
  | n + 1, g, σ, h => by
    rw [lF]
    refine lsum_zero (fun a _ => ?_)
    split
    · split
      · split
        · rename_i e
          have := po_best (W a) σ P hP
          rw [e] at this
          have := this.2.2.1
          omega
        · rfl
      · exact lF_zero hP n _ _ (by have := tkL_le (W a) σ P y; omega)
    · rfl
theorem lF_wish (hP : P ≤ 6) {x y : Nat} (h : W x y = 0) : ∀ (n g : Nat) (σ : Sv), lF K P W x y n g σ = 0
  | 0, _, _ => rfl
  | n + 1, g, σ => by
    rw [lF]
    refine lsum_zero (fun a _ => ?_)
    split
    · split
      · split
        · rename_i e1 e
          have := po_best (W a) σ P hP
          rw [e] at this
          have := this.2.1
          rw [e1] at this
          omega
        · rfl
      · exact lF_wish hP h n _ _
    · rfl
/-! keys -/
theorem lN_or (a b : Nat) : lN a ||| lN b = lN (a ||| b) := by
  apply Int64.toBitVec_inj.1
  show BitVec.ofNat 64 a ||| BitVec.ofNat 64 b = BitVec.ofNat 64 (a ||| b)
  apply BitVec.eq_of_getLsbD_eq
  intro i hi
  simp [hi]
theorem lN_shl {r : Nat} : lN r <<< ((20 : Int32).toInt64 &&& 63) = lN (r * 1048576) := by
  apply Int64.toBitVec_inj.1
  apply BitVec.eq_of_toNat_eq
  have e : (((20 : Int32).toInt64 &&& 63).toBitVec.smod 64).toNat = 20 := by decide
  show (BitVec.ofNat 64 r <<< (((20 : Int32).toInt64 &&& 63).toBitVec.smod 64).toNat).toNat = (BitVec.ofNat 64 (r * 1048576)).toNat
  rw [e, BitVec.toNat_shiftLeft, Nat.shiftLeft_eq, BitVec.toNat_ofNat, BitVec.toNat_ofNat, Nat.mod_mul_mod]
def lkey (r g L : Nat) : Nat := r * 1048576 + g * 4096 + L
theorem lkey_ok {r g L : Nat} (hg : g < 256) (hL : L < 4096) : ((lN r <<< ((20 : Int32).toInt64 &&& 63)) ||| ((nI g <<< ((12 : Int32) &&& 31)).toInt64)) ||| (nI L).toInt64 = lN (lkey r g L) := by
  rw [lN_shl, show (12 : Int32) = nI 12 from rfl, sh_1 (q := 12) (by decide) (by omega), nI_l (by omega), nI_l (by omega), lN_or, lN_or]
  have e1 : r * 1048576 ||| g * 2 ^ 12 = g * 4096 + r * 1048576 := by
    rw [Nat.or_comm, Nat.mul_comm r, show 1048576 = 2 ^ 20 from rfl, or_add (by omega)]
  have e2 : (g * 4096 + r * 1048576) ||| L = L + (g * 4096 + r * 1048576) := by
    rw [Nat.or_comm, show g * 4096 + r * 1048576 = 2 ^ 12 * (g + r * 256) by omega, or_add (by omega)]
  rw [e1, e2]
  exact congrArg lN (by unfold lkey; omega)
theorem lN_inj {a b : Nat} (ha : a < 2 ^ 62) (hb : b < 2 ^ 62) (h : lN a = lN b) : a = b := by
  rw [← zL_nat, ← zL_nat] at h
  have := (zL_eq ⟨by omega, by omega⟩ ⟨by omega, by omega⟩).mp h
  omega
theorem lkey_inj {r g L g' L' : Nat} (hg : g < 256) (hL : L < 4096) (hg' : g' < 256) (hL' : L' < 4096) (h : lkey r g L = lkey r g' L') : g = g' ∧ L = L' := by
  unfold lkey at h
  omega
end LOTS3
