/-! turn: orders by digits -/
def dgt (x j : Nat) : Nat := x / 8 ^ j % 8
def DVb (K : Nat) (d : Nat → Nat) (n : Nat) : Prop := ∀ j, j < n → d j < K ∧ ∀ i, i < j → d i ≠ d j
def snM (d : Nat → Nat) : Nat → Nat
  | 0 => 0
  | a + 1 => snM d a ||| 2 ^ d a
theorem snM_bt (d : Nat → Nat) : ∀ (a i : Nat), bt (snM d a) i = 1 ↔ ∃ j, j < a ∧ d j = i
  | 0, i => by
    unfold snM bt
    constructor
    · intro h; simp at h
    · rintro ⟨j, hj, _⟩; omega
  | a + 1, i => by
    rw [snM, bt_set]
    by_cases h : i = d a
    · rw [if_pos h]
      exact ⟨fun _ => ⟨a, by omega, h.symm⟩, fun _ => rfl⟩
    · rw [if_neg h, snM_bt d a i]
      constructor
      · rintro ⟨j, hj, e⟩; exact ⟨j, by omega, e⟩
      · rintro ⟨j, hj, e⟩
        rcases Nat.lt_or_ge j a with z | z
        · exact ⟨j, z, e⟩
        · rw [show j = a by omega] at e; exact absurd e.symm h
theorem snM_lt {d : Nat → Nat} (h : ∀ j, d j < 8) : ∀ a, snM d a < 2 ^ 8
  | 0 => by show 0 < 2 ^ 8; decide
  | a + 1 => by
    rw [snM]
    refine Nat.or_lt_two_pow (snM_lt h a) ?_
    exact Nat.pow_lt_pow_right (by decide) (h a)
theorem bt_full {K i : Nat} : bt (2 ^ K - 1) i = if i < K then 1 else 0 := by
  rw [bt_tb, Nat.testBit_two_pow_sub_one]
  by_cases h : i < K <;> simp [h]
/-- all seen, each once -/
theorem seen_iff {K : Nat} {d : Nat → Nat} (hK : K ≤ 8) (h8 : ∀ j, d j < 8) : snM d K = 2 ^ K - 1 ↔ DVb K d K := by
  have hl := snM_lt h8 K
  have hp : 2 ^ K - 1 < 2 ^ 8 := by
    have : 2 ^ K ≤ 2 ^ 8 := Nat.pow_le_pow_right (by decide) hK
    have : 0 < 2 ^ K := Nat.pow_pos (by decide)
    omega
  constructor
  · intro h
    have hlt : ∀ j, j < K → d j < K := by
      intro j hj
      have : bt (snM d K) (d j) = 1 := (snM_bt d K (d j)).mpr ⟨j, hj, rfl⟩
      rw [h, bt_full] at this
      by_cases z : d j < K
      · exact z
      · rw [if_neg z] at this; cases this
    have hon : ∀ y, y < K → ∃ j, j < K ∧ d j = y := by
      intro y hy
      have : bt (snM d K) y = 1 := by rw [h, bt_full, if_pos hy]
      exact (snM_bt d K y).mp this
    obtain ⟨g, hg⟩ := pick 0 hon
    intro j hj
    refine ⟨hlt j hj, fun i hij e => ?_⟩
    have gon : ∀ {z}, z < K → ∃ y, y < K ∧ g y = z := fun {z} hz => fb_onto (fun y hy => (hg y hy).1) (fun y y' hyy hy' e => by
      have e1 := (hg y (by omega)).2
      have e2 := (hg y' hy').2
      rw [e, e2] at e1
      omega) hz
    obtain ⟨y, hy, ey⟩ := gon (show i < K by omega)
    obtain ⟨y', hy', ey'⟩ := gon hj
    have e1 := (hg y hy).2
    have e2 := (hg y' hy').2
    rw [ey] at e1
    rw [ey'] at e2
    have : y = y' := by rw [← e1, ← e2, e]
    rw [this] at ey
    omega
  · intro h
    refine bt_inj 8 _ _ hl hp (fun i hi => ?_)
    rw [bt_full]
    by_cases z : i < K
    · rw [if_pos z]
      obtain ⟨j, hj, e⟩ := fb_onto (fun j hj => (h j hj).1) (fun i j hij hj => (h j hj).2 i hij) z
      exact (snM_bt d K i).mpr ⟨j, hj, e⟩
    · rw [if_neg z]
      have : ¬ bt (snM d K) i = 1 := by
        intro hb
        obtain ⟨j, hj, e⟩ := (snM_bt d K i).mp hb
        have := (h j hj).1
        omega
      have := bt_lt (snM d K) i
      omega
section TURN
variable {N K P : Nat} {S : Nat → Nat} {W T : Nat → Nat → Nat}
theorem dgt_lt (x j : Nat) : dgt x j < 8 := Nat.mod_lt _ (by decide)
theorem p8 (j : Nat) : 2 ^ (3 * j) = 8 ^ j := by rw [Nat.pow_mul]
theorem nI_3mul (j : Nat) : 3 * nI j = nI (3 * j) := nI_mul 3 j
theorem dig8 {x j : Nat} (hj : j < 10) (hx : x < 2 ^ 31) : (nI x >>> ((3 * nI j) &&& 31)) &&& 7 = nI (dgt x j) := by
  rw [nI_3mul, sh_r (by omega) hx]
  have := pk_andN (n := x / 2 ^ (3 * j)) (Nat.lt_of_le_of_lt (Nat.div_le_self _ _) (by omega)) (m := 7) 3 (by decide)
  rw [this, p8]
  rfl
theorem isOrder_25_ok (hK : K ≤ 8) {x : Nat} (hx : x < 2 ^ 31) : ∀ (n a : Nat), a ≤ K → K - a < n → f_X7_isOrder_25 N (nI K) n (nI x) (nI (snM (dgt x) a)) (nI a) = (if snM (dgt x) K = 2 ^ K - 1 then some 1 else some 0) := by
  have hp : 2 ^ K ≤ 2 ^ 8 := Nat.pow_le_pow_right (by decide) hK
  have hp0 : 0 < 2 ^ K := Nat.pow_pos (by decide)
  intro n
  induction n with
  | zero => intro a h1 h2; omega
  | succ n ih =>
    intro a ha hn
    rw [f_X7_isOrder_25]
    by_cases h : K ≤ a
    · have : a = K := by omega
      subst this
      have hl := snM_lt (dgt_lt x) a
      rw [if_pos (nI_le (Nat.le_refl _) (by omega)), one_sh (by omega), show (1 : Int32) = nI 1 from rfl, pk_sub hp0]
      by_cases e : snM (dgt x) a = 2 ^ a - 1
      · rw [if_pos e, if_pos (by rw [e])]
      · rw [if_neg e, if_neg (nI_ne (by omega) (by omega) e)]
    · have hd := dgt_lt x a
      rw [if_neg (nI_ge (by omega) (by omega)), dig8 (by omega) hx, one_sh (by omega), nI_or, nI_1]
      exact ih (a + 1) (by omega) (by omega)
theorem isOrder_ok (hN : 40000 ≤ N) (hK : K ≤ 8) {x : Nat} (hx : x < 2 ^ 31) : (x < 8 ^ K ∧ DVb K (dgt x) K ∧ f_X7_isOrder N (nI K) (nI x) = some 1) ∨ (¬ (x < 8 ^ K ∧ DVb K (dgt x) K) ∧ f_X7_isOrder N (nI K) (nI x) = some 0) := by
  have h8 : 8 ^ K ≤ 8 ^ 8 := Nat.pow_le_pow_right (by decide) hK
  have hsh : (1 : Int32) <<< ((3 * nI K) &&& 31) = nI (8 ^ K) := by rw [nI_3mul, one_sh (by omega), p8]
  unfold f_X7_isOrder
  rw [if_neg (nI_pos hx), hsh]
  have h25 := isOrder_25_ok (N := N) hK hx N 0 (Nat.zero_le _) (by omega)
  have e0 : f_X7_isOrder_25 N (nI K) N (nI x) 0 0 = f_X7_isOrder_25 N (nI K) N (nI x) (nI (snM (dgt x) 0)) (nI 0) := rfl
  by_cases hlt : x < 8 ^ K
  · rw [if_pos (nI_lt hlt (by omega)), e0, h25]
    by_cases hs : snM (dgt x) K = 2 ^ K - 1
    · rw [if_pos hs]
      exact Or.inl ⟨hlt, (seen_iff hK (dgt_lt x)).mp hs, rfl⟩
    · rw [if_neg hs]
      exact Or.inr ⟨fun z => hs ((seen_iff hK (dgt_lt x)).mpr z.2), rfl⟩
  · rw [if_neg (nI_nlt (by omega) (by omega))]
    exact Or.inr ⟨fun z => hlt z.1, rfl⟩
/-- rows of those whose turn has come -/
def FilT {α : Type} (P : Nat) (val : Nat → Nat → Nat → α) (d : Nat → Nat) (j o : Nat) (g : Nat → α) : Prop := ∀ i c, c ≤ P → (i < j ∨ (i = j ∧ c < o)) → g (d i * 7 + c) = val (d i) i c
def vT (W : Nat → Nat → Nat) (b j o : Nat) : Int32 := if 7 < wo W b o then RUL else -(nI (wo W b o * 8 ^ j))
theorem p8_le {j : Nat} (h : j < 8) : 8 ^ j ≤ 2097152 := (Nat.pow_le_pow_right (by decide) (by omega) : 8 ^ j ≤ 8 ^ 7)
theorem fT_2 (hK : K ≤ 8) (hP : P ≤ 6) (hW : ∀ a q, W a q ≤ 6) {cw : Nat → Int32} (hw4 : ∀ a q, a < 8 → q < 6 → cw (a * 6 + q) = nI (W a q)) {d : Nat → Nat} (hd : DVb K d K) {j : Nat} (hj : j < K) :
    ∀ (n o : Nat) (g : Nat → Int32), o ≤ P + 1 → P + 1 - o < n → FilT P (vT W) d j o g → ∃ g', FilT P (vT W) d (j + 1) 0 g' ∧ f_X7_fillTurn_2 N (nI P) cw n g (nI (d j)) (nI (3 * j)) (oI o) = some g' := by
  have hdj := (hd j hj).1
  intro n
  induction n with
  | zero => intro o g h1 h2; omega
  | succ n ih =>
    intro o g ho hn hf
    rw [f_X7_fillTurn_2]
    by_cases h : P + 1 ≤ o
    · have : o = P + 1 := by omega
      subst this
      simp (disch := omega) only [q_leo, if_pos h]
      exact ⟨g, fun i c hc hi => hf i c hc (by omega), rfl⟩
    · have h8 := wo_le W hW (d j) o
      have h8j := p8_le (show j < 8 by omega)
      have hm : wo W (d j) o * 8 ^ j ≤ 8 * 8 ^ j := Nat.mul_le_mul_right _ h8.1
      simp (disch := omega) only [q_leo, if_neg h, X0_worthOf_ok N hW hw4 (show d j < 8 by omega) (show o ≤ 6 by omega), X0_isOpen_ok hW hw4 (show d j < 8 by omega) (show o ≤ 6 by omega), bd]
      have hstep : ∀ x, x = vT W (d j) j o → ∃ g', FilT P (vT W) d (j + 1) 0 g' ∧ f_X7_fillTurn_52 N (nI P) cw (f_X7_fillTurn_2 N (nI P) cw n) g (nI (d j)) (nI (3 * j)) (oI o) (nI (d j)) (oI o) x = some g' := by
        intro x hx
        unfold f_X7_fillTurn_52
        rw [setGain_ok g (by omega) (by omega), bd, oI_next]
        refine ih (o + 1) _ (by omega) (by omega) (fun i c hc hi => ?_)
        by_cases e : i = j ∧ c = o
        · rw [e.1, e.2, pk_us, hx]
        · have hne : d i * 7 + c ≠ d j * 7 + o := by
            intro z
            have hij : d i = d j := by omega
            have : i = j := by
              rcases Nat.lt_trichotomy i j with y | y | y
              · exact absurd hij ((hd j hj).2 i y)
              · exact y
              · omega
            exact e ⟨this, by omega⟩
          rw [pk_un hne]
          exact hf i c hc (by omega)
      by_cases hw : 7 < wo W (d j) o
      · rw [if_pos hw, if_pos rfl]
        exact hstep _ (by unfold vT; rw [if_pos hw]; rfl)
      · rw [if_neg hw, if_neg one_ne, sh_1 (by omega) (by rw [p8]; omega), p8]
        exact hstep _ (by unfold vT; rw [if_neg hw])
theorem fillTurn_ok (hN : 40000 ≤ N) (hK : K ≤ 8) (hP : P ≤ 6) (hW : ∀ a q, W a q ≤ 6) {cw : Nat → Int32} (hw4 : ∀ a q, a < 8 → q < 6 → cw (a * 6 + q) = nI (W a q)) {d : Nat → Nat} (hd : DVb K d K) {j : Nat} (hj : j < K) {g : Nat → Int32} (h : FilT P (vT W) d j 0 g) : ∃ g', FilT P (vT W) d (j + 1) 0 g' ∧ f_X7_fillTurn N (nI P) cw g (nI (d j)) (nI (3 * j)) = some g' := by
  unfold f_X7_fillTurn
  rw [← oI_0]
  exact fT_2 hK hP hW hw4 hd hj N 0 g (Nat.zero_le _) (by omega) h
/-- who comes when -/
def tRow (W : Nat → Nat → Nat) (d : Nat → Nat) (K : Nat) (b : Nat) : Row := fun o => if 7 < wo W b o then none else some (-((wo W b o * 8 ^ (fb_ct (fun i => decide (∀ k, k ≤ i → d k ≠ b)) K) : Nat) : Int))
theorem pos_of {d : Nat → Nat} {j : Nat} (hd : DVb K d K) (hj : j < K) : fb_ct (fun i => decide (∀ k, k ≤ i → d k ≠ d j)) K = j := by
  have e := fb_ct_split (fun i => decide (∀ k, k ≤ i → d k ≠ d j)) j (K - j)
  rw [show j + (K - j) = K by omega] at e
  have h1 : fb_ct (fun i => decide (∀ k, k ≤ i → d k ≠ d j)) j = j := fb_ct_all.mpr (fun k hk => decide_eq_true (fun i hi => (hd j hj).2 i (by omega)))
  have h2 : fb_ct (fun k => decide (∀ i, i ≤ j + k → d i ≠ d j)) (K - j) = 0 := fb_ct_zero.mpr (fun k hk => decide_eq_false (fun h => h j (by omega) rfl))
  rw [e, h1, h2]
  rfl
theorem vT_rows (hK : K ≤ 8) (hW : ∀ a q, W a q ≤ 6) {d : Nat → Nat} (hd : DVb K d K) {g : Nat → Int32} (h : FilT P (vT W) d K 0 g) : RowsAre K P g (tRow W d K) ∧ GB K P g := by
  have hon : ∀ b, b < K → ∃ j, j < K ∧ d j = b := fun b hb => fb_onto (fun j hj => (hd j hj).1) (fun i j hij hj => (hd j hj).2 i hij) hb
  have key : ∀ b o, b < K → o ≤ P → ∃ j, j < K ∧ d j = b ∧ g (b * 7 + o) = vT W b j o := by
    intro b o hb ho
    obtain ⟨j, hj, e⟩ := hon b hb
    refine ⟨j, hj, e, ?_⟩
    have := h j o ho (Or.inl hj)
    rw [e] at this
    exact this
  have hneg : ∀ b j o, j < K → ¬ 7 < wo W b o → (-(nI (wo W b o * 8 ^ j)) : Int32) = zI (-((wo W b o * 8 ^ j : Nat) : Int)) ∧ smallZ (-((wo W b o * 8 ^ j : Nat) : Int)) := by
    intro b j o hj hw
    have h8j := p8_le (show j < 8 by omega)
    have hm : wo W b o * 8 ^ j ≤ 7 * 8 ^ j := Nat.mul_le_mul_right _ (by omega)
    exact ⟨by rw [← zI_nat, zI_neg], ⟨by omega, by omega⟩⟩
  constructor
  · intro b o hb ho
    obtain ⟨j, hj, e, hv⟩ := key b o hb ho
    unfold gRow tRow
    rw [hv]
    unfold vT
    by_cases hw : 7 < wo W b o
    · rw [if_pos hw, if_pos hw, if_pos rfl]
    · obtain ⟨n1, n2⟩ := hneg b j o hj hw
      have hp := pos_of hd hj
      rw [e] at hp
      rw [if_neg hw, if_neg hw, n1, if_neg (zI_rul n2), zI_small n2, hp]
  · intro b o hb ho
    obtain ⟨j, hj, e, hv⟩ := key b o hb ho
    rw [hv]
    unfold vT
    by_cases hw : 7 < wo W b o
    · rw [if_pos hw]; exact Or.inl rfl
    · obtain ⟨n1, n2⟩ := hneg b j o hj hw
      rw [if_neg hw, n1, zI_small n2]
      exact Or.inr n2
theorem turn_some (W : Nat → Nat → Nat) (d : Nat → Nat) (S : Nat → Nat) (K P : Nat) : ∃ B M, bw P (rf (tRow W d K) 0 K) S = some (B, M) := by
  have h := gv_tl (P := P) (S := S) (K := K) (r := tRow W d K) (t := fun _ => 0) (fun _ => Nat.zero_le _) (fun q _ => by rw [had_zero]; exact Nat.zero_le _) K 0 (by omega) (fun i _ _ => by unfold tRow wo; simp)
  rw [lft_0] at h
  obtain ⟨B, M, h1, -⟩ := gv_le P _ _ _ _ h
  exact ⟨B, M, h1⟩
theorem turn_24 (hN : 40000 ≤ N) (hG : GD K P S W T) {cs cw : Nat → Int32} (hw4 : ∀ a q, a < 8 → q < 6 → cw (a * 6 + q) = nI (W a q)) {c_aimed_askers : Int32} {c_aimed_places : Int32} {c_aimed_seatBits : Int32} {c_aimed_entries : Int32} {c_row : (Nat → Int32)} {c_aimed_best : (Nat → Int32)} {c_aimed_clipAll : (Nat → Int32)} {c_aimed_clipToOne : (Nat → Int32)} {c_aimed_clipToTwo : (Nat → Int32)} {c_aimed_firstOf : (Nat → Int32)} {c_aimed_left : (Nat → Int32)} {c_aimed_next : (Nat → Int32)} {c_aimed_solvedGains : (Nat → Int32)} {c_aimed_ways : (Nat → Int32)} {c_all_slots : (Nat → Int32)} {x : Nat} (hx : x < 2 ^ 31) (hd : DVb K (dgt x) K) {v2 : Int32} :
    ∀ (n a : Nat) (g : Nat → Int32), a ≤ K → K - a < n → FilT P (vT W) (dgt x) a 0 g → ∃ g', FilT P (vT W) (dgt x) K 0 g' ∧
      f_X7_turn_24 N (nI K) (nI P) cs cw n c_aimed_askers c_aimed_places c_aimed_seatBits c_aimed_entries c_row c_aimed_best c_aimed_clipAll c_aimed_clipToOne c_aimed_clipToTwo c_aimed_firstOf g c_aimed_left c_aimed_next c_aimed_solvedGains c_aimed_ways c_all_slots (nI x) v2 (nI a) = (f_X4_solve N (nI K) (nI P) g' cs c_aimed_askers c_aimed_places c_aimed_seatBits c_aimed_entries c_aimed_best c_aimed_clipAll c_aimed_clipToOne c_aimed_clipToTwo c_aimed_firstOf c_aimed_left c_aimed_next c_all_slots c_aimed_solvedGains c_aimed_ways).bind fun (o2, o3, o4, o5, o6, o7, o8, o9, o10, o11, o12, o13, o14, o15) =>
        (f_X4_pathTo N o2 o3 o6 o12 o14 o15 c_row 0).bind fun o17 => (rdI 8 o17 v2).bind fun t19 => some (t19, o2, o3, o4, o5, o17, o6, o7, o8, o9, o10, g', o11, o12, o14, o15, o13) := by
  have hK := hG.K8
  have hP := hG.P6
  intro n
  induction n with
  | zero => intro a g h1 h2; omega
  | succ n ih =>
    intro a gg ha hn hf
    rw [f_X7_turn_24]
    by_cases h : K ≤ a
    · have : a = K := by omega
      subst this
      rw [if_pos (nI_le (Nat.le_refl _) (by omega))]
      exact ⟨gg, hf, rfl⟩
    · obtain ⟨g', h1, h2⟩ := fillTurn_ok (N := N) hN hK hP hG.W6 hw4 hd (show a < K by omega) hf
      rw [if_neg (nI_ge (by omega) (by omega)), dig8 (by omega) hx, nI_3mul, h2, bd, nI_1]
      exact ih (a + 1) g' (by omega) (by omega) h1
/-! the reference -/
def cT8 (W : Nat → Nat → Nat) (b j o : Nat) : Int64 := if 7 < wo W b o then zL NV else lN (8 ^ j * wo W b o)
theorem t123 (hK : K ≤ 8) (hP : P ≤ 6) (hW : ∀ a q, W a q ≤ 6) {ms mw : Nat → Int32} (hw4 : ∀ a q, a < 8 → q < 6 → mw (a * 6 + q) = nI (W a q)) {c_full : Int32} {c_found : (Nat → Int32)} {c_least : (Nat → Int64)} {c_weight : (Nat → Int32)} {d : Nat → Nat} {j : Nat} (hj : j < K) (hd : DVb K d (j + 1)) {v2 v3 v5 v6 : Int32} (k32 : Int32 → (Nat → Int64) → (Nat → Int32) → (Nat → Int64) → (Nat → Int32) → Int32 → Int32 → Int32 → Int32 → Int32 → Option (Int32 × Int32 × (Nat → Int64) × (Nat → Int32) × (Nat → Int64) × (Nat → Int32))) :
    ∀ (n o : Nat) (cost : Nat → Int64), o ≤ P + 1 → P + 1 - o < n → FilT P (cT8 W) d j o cost → ∃ c', FilT P (cT8 W) d (j + 1) 0 c' ∧ f_X8_turn_123 N (nI K) (nI P) ms mw k32 n c_full cost c_found c_least c_weight v2 v3 1 v5 v6 (nI (d j)) (lN (8 ^ j)) (nI o) = k32 c_full c' c_found c_least c_weight v2 v3 1 v5 (v6 + (-1)) := by
  have hdj := (hd j (by omega)).1
  intro n
  induction n with
  | zero => intro o g h1 h2; omega
  | succ n ih =>
    intro o cost ho hn hf
    rw [f_X8_turn_123]
    by_cases h : P < o
    · have : o = P + 1 := by omega
      subst this
      rw [if_pos (nI_lt h (by omega))]
      exact ⟨cost, fun i c hc hi => hf i c hc (by omega), rfl⟩
    · have h8 := wo_le W hW (d j) o
      rw [if_neg (nI_nlt (by omega) (by omega)), if_neg one_ne, X8_worthOf_ok N hW hw4 (by omega) (by omega), bd]
      simp (disch := omega) only [q_le7]
      have hstep : ∀ x, x = cT8 W (d j) j o → ∃ c', FilT P (cT8 W) d (j + 1) 0 c' ∧ f_X8_turn_180 N (nI K) (nI P) ms mw (f_X8_turn_123 N (nI K) (nI P) ms mw k32 n) c_full cost c_found c_least c_weight v2 v3 1 v5 v6 (nI (d j)) (lN (8 ^ j)) (nI o) (7 * nI (d j) + nI o) x = k32 c_full c' c_found c_least c_weight v2 v3 1 v5 (v6 + (-1)) := by
        intro x hx
        unfold f_X8_turn_180
        rw [ix7', wrL_n _ _ (by omega) (by decide), bd, nI_1]
        refine ih (o + 1) _ (by omega) (by omega) (fun i c hc hi => ?_)
        by_cases e : i = j ∧ c = o
        · rw [e.1, e.2, pk_uLs, hx]
        · have hne : d i * 7 + c ≠ d j * 7 + o := by
            intro z
            have hij : d i = d j := by omega
            have : i = j := by
              rcases Nat.lt_trichotomy i j with y | y | y
              · exact absurd hij ((hd j (by omega)).2 i y)
              · exact y
              · omega
            exact e ⟨this, by omega⟩
          rw [pk_uLn hne]
          exact hf i c hc (by omega)
      by_cases hw : wo W (d j) o ≤ 7
      · rw [if_pos hw, bd, nI_l (by omega), lN_mul]
        exact hstep _ (by unfold cT8; rw [if_neg (by omega)])
      · rw [if_neg hw]
        exact hstep _ (by unfold cT8; rw [if_pos (by omega)]; rfl)
theorem t99 (hK : K ≤ 8) {ms mw : Nat → Int32} {c_full : Int32} {c_cost : (Nat → Int64)} {c_found : (Nat → Int32)} {c_least : (Nat → Int64)} {c_weight : (Nat → Int32)} {j : Nat} (hj : j < K) {v2 v3 v4 v5 v7 : Int32} (k32 : Int32 → (Nat → Int64) → (Nat → Int32) → (Nat → Int64) → (Nat → Int32) → Int32 → Int32 → Int32 → Int32 → Int32 → Option (Int32 × Int32 × (Nat → Int64) × (Nat → Int32) × (Nat → Int64) × (Nat → Int32))) :
    ∀ (n i : Nat), i ≤ j → j - i < n → f_X8_turn_99 N (nI K) (nI P) ms mw k32 n c_full c_cost c_found c_least c_weight v2 v3 v4 v5 (nI (K - 1 - j)) v7 (lN (8 ^ i)) (nI (K - 1 - i)) = f_X8_turn_123 N (nI K) (nI P) ms mw k32 N c_full c_cost c_found c_least c_weight v2 v3 v4 v5 (nI (K - 1 - j)) v7 (lN (8 ^ j)) 0 := by
  intro n
  induction n with
  | zero => intro i h1 h2; omega
  | succ n ih =>
    intro i hi hn
    rw [f_X8_turn_99]
    by_cases h : j ≤ i
    · have : i = j := by omega
      subst this
      rw [if_pos (nI_le (Nat.le_refl _) (by omega))]
    · have em : nI (K - 1 - i) + (-1) = nI (K - 1 - (i + 1)) := by
        rw [show K - 1 - i = K - 1 - (i + 1) + 1 by omega, pk_m1]
      rw [if_neg (nI_ge (by omega) (by omega)), em, show (8 : Int64) = lN 8 from rfl, lN_mul, ← Nat.pow_succ]
      exact ih (i + 1) (by omega) (by omega)
theorem t99_bad (hN : 40000 ≤ N) (hK : K ≤ 8) {ms mw : Nat → Int32} {c_full : Int32} {c_cost : (Nat → Int64)} {c_found : (Nat → Int32)} {c_least : (Nat → Int64)} {c_weight : (Nat → Int32)} {j : Nat} (hj : j < K) {v2 v3 v5 v7 : Int32} (k32 : Int32 → (Nat → Int64) → (Nat → Int32) → (Nat → Int64) → (Nat → Int32) → Int32 → Int32 → Int32 → Int32 → Int32 → Option (Int32 × Int32 × (Nat → Int64) × (Nat → Int32) × (Nat → Int64) × (Nat → Int32))) :
    f_X8_turn_99 N (nI K) (nI P) ms mw k32 N c_full c_cost c_found c_least c_weight v2 v3 0 v5 (nI (K - 1 - j)) v7 1 (nI K - 1) = k32 c_full c_cost c_found c_least c_weight v2 v3 0 v5 (nI (K - 1 - j) + (-1)) := by
  have h := t99 (N := N) (P := P) (ms := ms) (mw := mw) (c_full := c_full) (c_cost := c_cost) (c_found := c_found) (c_least := c_least) (c_weight := c_weight) (v2 := v2) (v3 := v3) (v4 := 0) (v5 := v5) (v7 := v7) hK hj k32 N 0 (Nat.zero_le _) (by omega)
  have e : nI K - 1 = nI (K - 1 - 0) := by rw [show K = K - 1 + 1 by omega, nI_pred]; rfl
  rw [e, show (1 : Int64) = lN (8 ^ 0) from rfl, h]
  obtain ⟨n, rfl⟩ : ∃ n, N = n + 1 := ⟨N - 1, by omega⟩
  rw [f_X8_turn_123]
  by_cases hp : nI P < 0
  · rw [if_pos hp]
  · rw [if_neg hp, if_pos rfl]
theorem t32 (hN : 40000 ≤ N) (hG : GD K P S W T) {ms mw : Nat → Int32} (hw4 : ∀ a q, a < 8 → q < 6 → mw (a * 6 + q) = nI (W a q)) {c_full : Int32} {c_found : (Nat → Int32)} {c_least : (Nat → Int64)} {c_weight : (Nat → Int32)} {x : Nat} (hx : x < 2 ^ 31) {v2 : Int32} :
    ∀ (m n j : Nat) (cost : Nat → Int64), K = j + m → m + 1 < n → DVb K (dgt x) j → FilT P (cT8 W) (dgt x) j 0 cost →
      (DVb K (dgt x) K ∧ ∃ c', FilT P (cT8 W) (dgt x) K 0 c' ∧ f_X8_turn_32 N (nI K) (nI P) ms mw n c_full cost c_found c_least c_weight v2 (nI (snM (dgt x) j)) 1 (nI (x / 8 ^ j)) (nI m - 1) = f_X8_turn_193 N (nI K) (nI P) ms mw c_full c' c_found c_least c_weight v2 1 (nI (x / 8 ^ K))) ∨
      (¬ DVb K (dgt x) K ∧ ∃ c', f_X8_turn_32 N (nI K) (nI P) ms mw n c_full cost c_found c_least c_weight v2 (nI (snM (dgt x) j)) 1 (nI (x / 8 ^ j)) (nI m - 1) = some (-2, c_full, c', c_found, c_least, c_weight)) := by
  have hK := hG.K8
  have hP := hG.P6
  intro m
  induction m with
  | zero =>
    intro n j cost hk hn hd hf
    obtain ⟨n, rfl⟩ : ∃ n', n = n' + 1 := ⟨n - 1, by omega⟩
    have : j = K := by omega
    subst this
    refine Or.inl ⟨hd, cost, hf, ?_⟩
    rw [f_X8_turn_32, if_pos (show nI 0 - 1 < 0 from by decide)]
  | succ m ih =>
    intro n j cost hk hn hd hf
    obtain ⟨n, rfl⟩ : ∃ n', n = n' + 1 := ⟨n - 1, by omega⟩
    have hd8 := dgt_lt x j
    have hxj : x / 8 ^ j < 2 ^ 31 := Nat.lt_of_le_of_lt (Nat.div_le_self _ _) hx
    have hl := snM_lt (dgt_lt x) j
    have hmK : m = K - 1 - j := by omega
    have hdiv : nI (x / 8 ^ j) / 8 = nI (x / 8 ^ (j + 1)) := by
      rw [show (8 : Int32) = nI 8 from rfl, pk_div hxj (by omega) (by omega), Nat.div_div_eq_div_mul, ← Nat.pow_succ]
    have hrem : nI (x / 8 ^ j) - nI (x / 8 ^ j) / 8 * 8 = nI (dgt x j) := by
      rw [show (8 : Int32) = nI 8 from rfl, pk_rem hxj (by omega) (by omega)]; rfl
    -- a bad digit ends it
    have hbad : ¬ DVb K (dgt x) (j + 1) → ¬ DVb K (dgt x) K ∧ ∃ c', f_X8_turn_78 N (nI K) (nI P) ms mw (f_X8_turn_32 N (nI K) (nI P) ms mw n) c_full cost c_found c_least c_weight v2 (nI (snM (dgt x) j)) (nI (x / 8 ^ (j + 1))) (nI m) (nI (dgt x j)) = some (-2, c_full, c', c_found, c_least, c_weight) := by
      intro hb
      refine ⟨fun z => hb (fun i hi => z i (by omega)), cost, ?_⟩
      unfold f_X8_turn_78 f_X8_turn_79
      rw [hmK, t99_bad hN hK (show j < K by omega)]
      obtain ⟨n, rfl⟩ : ∃ n', n = n' + 1 := ⟨n - 1, by omega⟩
      rw [f_X8_turn_32]
      unfold f_X8_turn_193
      by_cases hv : nI (K - 1 - j) + (-1) < 0
      · rw [if_pos hv, if_pos rfl]
      · rw [if_neg hv, if_pos rfl, if_pos rfl]
    rw [f_X8_turn_32, nI_pred, if_neg (nI_pos (by omega)), if_neg one_ne, hrem, hdiv, X8_isAsker_ok hK, bd]
    by_cases hA : isM K (nI (dgt x j))
    · have hdK : dgt x j < K := by
        have := hA.2
        rw [nI_toInt (by omega)] at this
        omega
      rw [if_pos hA, if_neg one_ne, bit1 (by omega) (by omega)]
      have hb2 := bt_lt (snM (dgt x) j) (dgt x j)
      by_cases hu : bt (snM (dgt x) j) (dgt x j) = 1
      · rw [hu, if_neg (by decide)]
        refine Or.inr (hbad (fun z => ?_))
        obtain ⟨i, hi, e⟩ := (snM_bt (dgt x) j (dgt x j)).mp hu
        exact (z j (by omega)).2 i hi e
      · rw [show bt (snM (dgt x) j) (dgt x j) = 0 by omega, if_pos (by decide)]
        have hd1 : DVb K (dgt x) (j + 1) := by
          intro i hi
          rcases Nat.lt_or_ge i j with z | z
          · exact hd i z
          · rw [show i = j by omega]
            exact ⟨hdK, fun k hk e => hu ((snM_bt (dgt x) j (dgt x j)).mpr ⟨k, hk, e⟩)⟩
        unfold f_X8_turn_79
        have h99 := t99 (N := N) (P := P) (ms := ms) (mw := mw) (c_full := c_full) (c_cost := cost) (c_found := c_found) (c_least := c_least) (c_weight := c_weight) (v2 := v2) (v3 := nI (snM (dgt x) (j + 1))) (v4 := 1) (v5 := nI (x / 8 ^ (j + 1))) (v7 := nI (dgt x j)) hK (show j < K by omega) (f_X8_turn_32 N (nI K) (nI P) ms mw n) N 0 (Nat.zero_le _) (by omega)
        have e1 : nI K - 1 = nI (K - 1 - 0) := by rw [show K = K - 1 + 1 by omega, nI_pred]; rfl
        have e2 : nI (snM (dgt x) j) ||| ((1 : Int32) <<< (nI (dgt x j) &&& 31)) = nI (snM (dgt x) (j + 1)) := by rw [one_sh (by omega), nI_or]; rfl
        rw [e1, e2, hmK, show (1 : Int64) = lN (8 ^ 0) from rfl, h99]
        obtain ⟨c', g1, g2⟩ := t123 (N := N) (ms := ms) (c_full := c_full) (c_found := c_found) (c_least := c_least) (c_weight := c_weight) (v2 := v2) (v3 := nI (snM (dgt x) (j + 1))) (v5 := nI (x / 8 ^ (j + 1))) (v6 := nI (K - 1 - j)) hK hP hG.W6 hw4 (show j < K by omega) hd1 (f_X8_turn_32 N (nI K) (nI P) ms mw n) N 0 cost (Nat.zero_le _) (by omega) hf
        rw [show (0 : Int32) = nI 0 from rfl, g2]
        have em : nI (K - 1 - j) + (-1) = nI m - 1 := by
          rw [← hmK]
          cases m with
          | zero => decide
          | succ i => rw [pk_m1, nI_pred]
        rw [em]
        exact ih n (j + 1) c' (by omega) (by omega) hd1 g1
    · rw [if_neg hA, if_pos rfl]
      refine Or.inr (hbad (fun z => hA (isM_nI (z j (by omega)).1 (by omega))))
theorem cT8_ok (hK : K ≤ 8) (hW : ∀ a q, W a q ≤ 6) {d : Nat → Nat} (hd : DVb K d K) {cost : Nat → Int64} (h : FilT P (cT8 W) d K 0 cost) : CostOk K P W cost ∧ ∀ b o, b < K → o ≤ P → cRow cost b o = tRow W d K b o := by
  have hon : ∀ b, b < K → ∃ j, j < K ∧ d j = b := fun b hb => fb_onto (fun j hj => (hd j hj).1) (fun i j hij hj => (hd j hj).2 i hij) hb
  have key : ∀ b o, b < K → o ≤ P → ∃ j, j < K ∧ d j = b ∧ cost (b * 7 + o) = cT8 W b j o := by
    intro b o hb ho
    obtain ⟨j, hj, e⟩ := hon b hb
    refine ⟨j, hj, e, ?_⟩
    have := h j o ho (Or.inl hj)
    rw [e] at this
    exact this
  have hs : ∀ b j o, j < K → ¬ 7 < wo W b o → lN (8 ^ j * wo W b o) = zL ((8 ^ j * wo W b o : Nat) : Int) ∧ ((8 ^ j * wo W b o : Nat) : Int) ≤ 14680064 := by
    intro b j o hj hw
    have h8j := p8_le (show j < 8 by omega)
    have hm : 8 ^ j * wo W b o ≤ 8 ^ j * 7 := Nat.mul_le_mul_left _ (by omega)
    exact ⟨(zL_nat _).symm, by omega⟩
  constructor
  · intro b o hb ho
    obtain ⟨j, hj, e, hv⟩ := key b o hb ho
    rw [hv]
    unfold cT8
    by_cases hw : 7 < wo W b o
    · rw [if_pos hw]; exact Or.inl rfl
    · obtain ⟨n1, n2⟩ := hs b j o hj hw
      rw [if_neg hw, n1, zL_toInt ⟨by omega, by omega⟩]
      exact Or.inr ⟨by simp only [BB]; omega, by simp only [BB]; omega, fun q hq => wo_wish hW hw hq⟩
  · intro b o hb ho
    obtain ⟨j, hj, e, hv⟩ := key b o hb ho
    unfold cRow tRow
    rw [hv]
    unfold cT8
    by_cases hw : 7 < wo W b o
    · rw [if_pos hw, if_pos hw, if_pos rfl]
    · obtain ⟨n1, n2⟩ := hs b j o hj hw
      have hp := pos_of hd hj
      rw [e] at hp
      rw [if_neg hw, if_neg hw, n1, if_neg (fun z => by
        have := (zL_eq (a := ((8 ^ j * wo W b o : Nat) : Int)) ⟨by omega, by omega⟩ (by unfold b63; simp only [NV]; omega)).mp z
        simp only [NV] at this
        omega), zL_toInt ⟨by omega, by omega⟩, hp, Nat.mul_comm]
theorem call_turn (hG : GD K P S W T) (hN : 40000 ≤ N) {x y : Int32} {c_full : Int32} {c_cost : Nat → Int64} {c_found : Nat → Int32} {c_least : Nat → Int64} {c_weight : Nat → Int32} {c_aimed_askers : Int32} {c_aimed_places : Int32} {c_aimed_seatBits : Int32} {c_aimed_entries : Int32} {c_row : Nat → Int32} {c_aimed_best : Nat → Int32} {c_aimed_clipAll : Nat → Int32} {c_aimed_clipToOne : Nat → Int32} {c_aimed_clipToTwo : Nat → Int32} {c_aimed_firstOf : Nat → Int32} {c_aimed_gains : Nat → Int32} {c_aimed_left : Nat → Int32} {c_aimed_next : Nat → Int32} {c_aimed_solvedGains : Nat → Int32} {c_aimed_ways : Nat → Int32} {c_all_slots : Nat → Int32} (hv : SV c_aimed_askers c_aimed_places c_aimed_seatBits c_aimed_best c_aimed_next c_aimed_solvedGains c_aimed_ways) : ∀ {ca cp ma mp : Int32} {cs cl ct cw ms mw mt : Nat → Int32}, SB K P S W T ca cp cs cl ct cw → RepM K P S W T ma mp ms mw mt →
    ∃ r ca' cp' sb' ce' row' best' clA' clO' clT' fo' g' left' next' sg' ways' slots' full' cost' found' least' weight', f_X7_turn N ca cp cs cw c_aimed_askers c_aimed_places c_aimed_seatBits c_aimed_entries c_row c_aimed_best c_aimed_clipAll c_aimed_clipToOne c_aimed_clipToTwo c_aimed_firstOf c_aimed_gains c_aimed_left c_aimed_next c_aimed_solvedGains c_aimed_ways c_all_slots x y = some (r, ca', cp', sb', ce', row', best', clA', clO', clT', fo', g', left', next', sg', ways', slots') ∧
      f_X8_turn N ma mp ms mw c_full c_cost c_found c_least c_weight x y = some (r, full', cost', found', least', weight') ∧ SV ca' cp' sb' best' next' sg' ways' := by
  intro ca cp ma mp cs cl ct cw ms mw mt hB hM
  obtain ⟨⟨e1, e2, b3, b4, b5⟩, hl⟩ := hB
  obtain ⟨m1, m2, m3, m4, m5⟩ := hM
  have hP := hG.P6
  have hK := hG.K8
  subst e1; subst m1; subst e2; subst m2
  have h18 : ∀ z v, f_X8_turn_18 N (nI K) (nI P) ms mw c_full c_cost c_found c_least c_weight z v 0 = some (-2, c_full, c_cost, c_found, c_least, c_weight) := by
    intro z v
    unfold f_X8_turn_18 f_X8_turn_19
    obtain ⟨n, rfl⟩ : ∃ n, N = n + 1 := ⟨N - 1, by omega⟩
    rw [f_X8_turn_32]
    unfold f_X8_turn_193
    by_cases h : nI K - 1 < 0
    · rw [if_pos h, if_pos rfl]
    · rw [if_neg h, if_pos rfl, if_pos rfl]
  unfold f_X7_turn f_X8_turn
  rw [X0_isAsker_ok hK, X8_isAsker_ok hK, bd, bd]
  by_cases hy : isM K y
  · rw [if_pos hy, if_neg one_ne, if_neg one_ne]
    obtain ⟨a, ha, rfl⟩ := isM_ex hy
    by_cases hx0 : x < 0
    · have : f_X7_isOrder N (nI K) x = some 0 := by unfold f_X7_isOrder; rw [if_pos hx0]
      rw [if_pos hx0, this, bd, if_pos rfl, h18]
      exact ⟨_, _, _, _, _, _, _, _, _, _, _, _, _, _, _, _, _, _, _, _, _, _, rfl, rfl, hv⟩
    · obtain ⟨xn, hxn, rfl⟩ := nI_of hx0
      rw [if_neg hx0]
      unfold f_X8_turn_19
      have hpd : 8 ^ K ≤ 8 ^ 8 := Nat.pow_le_pow_right (by decide) hK
      have hpp : 0 < 8 ^ K := Nat.pow_pos (by decide)
      have h32 := t32 (N := N) (ms := ms) (c_full := c_full) (c_found := c_found) (c_least := c_least) (c_weight := c_weight) (v2 := nI a) hN hG m4 hxn K N 0 c_cost (by omega) (by omega) (fun j hj => absurd hj (Nat.not_lt_zero j)) (fun i c hc hi => by omega)
      rw [Nat.pow_zero, Nat.div_one] at h32
      rcases isOrder_ok (N := N) hN hK hxn with ⟨o1, o2, o3⟩ | ⟨o1, o2⟩
      · rw [o3, bd, if_neg one_ne]
        obtain ⟨g', g1, g2⟩ := turn_24 (N := N) (cs := cs) (v2 := nI a) (c_aimed_askers := c_aimed_askers) (c_aimed_places := c_aimed_places) (c_aimed_seatBits := c_aimed_seatBits) (c_aimed_entries := c_aimed_entries) (c_row := c_row) (c_aimed_best := c_aimed_best) (c_aimed_clipAll := c_aimed_clipAll) (c_aimed_clipToOne := c_aimed_clipToOne) (c_aimed_clipToTwo := c_aimed_clipToTwo) (c_aimed_firstOf := c_aimed_firstOf) (c_aimed_left := c_aimed_left) (c_aimed_next := c_aimed_next) (c_aimed_solvedGains := c_aimed_solvedGains) (c_aimed_ways := c_aimed_ways) (c_all_slots := c_all_slots) hN hG b4 hxn o2 N 0 c_aimed_gains (Nat.zero_le _) (by omega) (fun i c hc hi => by omega)
        obtain ⟨r1, r2⟩ := vT_rows hK hG.W6 o2 g1
        obtain ⟨ce', best', clA', clO', clT', fo', left', next', slots', sg', ways', s1, s2, s3⟩ := solve_ok hN hK hP hG.S3 (fun q hq => hG.S0 hq) b3 r2 hv c_aimed_entries c_aimed_clipAll c_aimed_clipToOne c_aimed_clipToTwo c_aimed_firstOf c_aimed_left c_all_slots
        obtain ⟨B, M, v1⟩ := turn_some W (dgt xn) S K P
        obtain ⟨u1, u2, u3⟩ := rows_b31 hK hP r1 r2 v1
        obtain ⟨row', p1, p2⟩ := pathTo_ok (N := N) hN hK hP r2 s2 s3 u1 u3 c_row
        rcases h32 with ⟨_, c', f1, f2⟩ | ⟨f1, _⟩
        · have f2' : f_X8_turn_32 N (nI K) (nI P) ms mw N c_full c_cost c_found c_least c_weight (nI a) 0 1 (nI xn) (nI K - 1) = _ := f2
          rw [f2', Nat.div_eq_of_lt o1]
          unfold f_X8_turn_193
          obtain ⟨cc1, cc2⟩ := cT8_ok hK hG.W6 o2 f1
          have hb' : bw P (cF K P c' 0) S = some (B, M) := by
            rw [← v1]
            unfold cF
            exact bw_cong P _ _ _ _ _ (fun i o h1 h2 h3 => cc2 i o (by omega) h3)
          obtain ⟨found', least', weight', l1, l2⟩ := X8_findLeast_ok (N := N) cc1 hK hP m3 (fun q _ => hG.S3 q) hG.W6 m4 hN hb' c_full c_found c_weight c_least
          rw [if_neg one_ne, if_pos (show nI 0 = 0 from rfl), l1, bd]
          simp only
          rw [rdI_n _ (by omega) (by decide), bd, l2 a ha, show (0 : Int32) = nI 0 from rfl, g2, s1, bd]
          simp only
          rw [show (0 : Int32) = nI 0 from rfl, p1, bd, rdI_n _ (by omega) (by decide), bd, p2 a ha, nthT_rows r1]
          have e : nthT P (cF K P c' 0) S 0 = nthT P (rf (tRow W (dgt xn) K) 0 K) S 0 := by
            unfold nthT cF
            rw [nth_cong P _ (tRow W (dgt xn) K) (K - 0) 0 S S 0 (fun i o h1 h2 h3 => cc2 i o (by omega) h3) (fun _ _ => rfl)]
            rfl
          rw [e]
          exact ⟨_, _, _, _, _, _, _, _, _, _, _, _, _, _, _, _, _, _, _, _, _, _, rfl, rfl, SV_of hK hP hG.S3 r2 s2 s3⟩
        · exact absurd o2 f1
      · rw [o2, bd, if_pos rfl]
        rcases h32 with ⟨f0, c', f1, f2⟩ | ⟨f1, c', f2⟩
        · have f2' : f_X8_turn_32 N (nI K) (nI P) ms mw N c_full c_cost c_found c_least c_weight (nI a) 0 1 (nI xn) (nI K - 1) = _ := f2
          have hge : ¬ xn < 8 ^ K := fun z => o1 ⟨z, f0⟩
          have hdp : 0 < xn / 8 ^ K := Nat.div_pos (by omega) hpp
          have hdl : xn / 8 ^ K < 2 ^ 31 := Nat.lt_of_le_of_lt (Nat.div_le_self _ _) hxn
          rw [f2']
          unfold f_X8_turn_193
          rw [if_neg one_ne, if_neg (nI_ne0 hdp hdl)]
          exact ⟨_, _, _, _, _, _, _, _, _, _, _, _, _, _, _, _, _, _, _, _, _, _, rfl, rfl, hv⟩
        · have f2' : f_X8_turn_32 N (nI K) (nI P) ms mw N c_full c_cost c_found c_least c_weight (nI a) 0 1 (nI xn) (nI K - 1) = _ := f2
          rw [f2']
          exact ⟨_, _, _, _, _, _, _, _, _, _, _, _, _, _, _, _, _, _, _, _, _, _, rfl, rfl, hv⟩
  · rw [if_neg hy, if_pos rfl, if_pos rfl, h18]
    exact ⟨_, _, _, _, _, _, _, _, _, _, _, _, _, _, _, _, _, _, _, _, _, _, rfl, rfl, hv⟩
end TURN
