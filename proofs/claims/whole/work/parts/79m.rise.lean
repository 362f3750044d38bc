/-! RISE: can any rise; a kick; what the votes' best is -/
section RISE
variable {N K P : Nat} {S : Nat → Nat} {W T : Nat → Nat → Nat}
theorem LK_first {w : Nat → Nat} {f : Nat → Int32} (hP : P ≤ 6) (hw : ∀ q, w q ≤ 6) (h : LK P w f) : ∃ o, o ≤ P ∧ f 0 = oI o ∧ (∀ q, o = q + 1 → 0 < w q) ∧ ∀ p, p < P → 0 < w p → ∃ q, o = q + 1 ∧ w q ≤ w p := by
  obtain ⟨m, hm, ⟨r, h1, h2, h3⟩, h4⟩ := h
  rcases Nat.eq_zero_or_pos m with z | z
  · subst z
    refine ⟨0, Nat.zero_le _, by rw [h4 0 (Nat.le_refl _) (by omega), oI_0], fun q hq => absurd hq (by omega), fun p hp h0 => ?_⟩
    obtain ⟨i, hi, -⟩ := h3 p hp h0 (by have := hw p; omega)
    omega
  · obtain ⟨e1, e2, e3, e4⟩ := h1 0 z
    refine ⟨r 0 + 1, by omega, by rw [e1, oI_s], fun q hq => by rw [show q = r 0 by omega]; exact e3, fun p hp h0 => ⟨r 0, rfl, ?_⟩⟩
    obtain ⟨i, hi, hr⟩ := h3 p hp h0 (by have := hw p; omega)
    rcases Nat.eq_zero_or_pos i with y | y
    · rw [y] at hr; rw [hr]; exact Nat.le_refl _
    · have := h2 0 i y hi
      rw [hr] at this
      omega
/-- an option that is there -/
def Opn (W : Nat → Nat → Nat) (a o : Nat) : Prop := ∀ q, o = q + 1 → 0 < W a q
theorem wo_open {a o : Nat} (hW : ∀ a q, W a q ≤ 6) (h : Opn W a o) : wo W a o ≤ 7 := by
  cases o with
  | zero => exact Nat.le_refl _
  | succ q =>
    have := h q rfl
    have := hW a q
    unfold wo; simp only
    rw [if_neg (by omega)]; omega
theorem firstWorth_ok (hP : P ≤ 6) (hW : ∀ a q, W a q ≤ 6) {cl cw : Nat → Int32} (hw4 : ∀ a q, a < 8 → q < 6 → cw (a * 6 + q) = nI (W a q)) (hl : LikesOk P W cl) {a : Nat} (ha : a < 8) :
    ∃ o, o ≤ P ∧ Opn W a o ∧ f_X0_firstWorth N cl cw (nI a) = some (nI (wo W a o)) ∧ ∀ o', o' ≤ P → wo W a o ≤ wo W a o' := by
  obtain ⟨o, h1, h2, h3, h4⟩ := LK_first hP (hW a) (hl a ha)
  refine ⟨o, h1, h3, ?_, fun o' ho' => ?_⟩
  · unfold f_X0_firstWorth
    have : (nI a * 6 : Int32) = nI (a * 6 + 0) := by rw [show (6 : Int32) = nI 6 from rfl, nI_mul, Nat.add_zero]
    rw [this, rdI_n _ (by omega) (by decide), bd, h2, X0_worthOf_ok N hW hw4 ha (by omega), bd]
  · cases o' with
    | zero => exact wo_open hW h3
    | succ p =>
      rcases Nat.eq_zero_or_pos (W a p) with z | z
      · have e : wo W a (p + 1) = 8 := by unfold wo; simp only; rw [if_pos z]
        rw [e]; exact (wo_le W hW a o).1
      · obtain ⟨q, e1, e2⟩ := h4 p (by omega) z
        have h0 := h3 q e1
        rw [e1]
        unfold wo; simp only
        rw [if_neg (by omega), if_neg (by omega)]; exact e2
theorem canAnyRise_ok (hN : 40000 ≤ N) (hG : GD K P S W T) {ct cw cl : Nat → Int32} (hw4 : ∀ a q, a < 8 → q < 6 → cw (a * 6 + q) = nI (W a q)) (ht5 : ∀ g a, g < 4 → a < 8 → ct (g * 8 + a) = oI (T g a)) (hl : LikesOk P W cl) {g : Nat} (hg : g < 4) :
    ∀ (n a : Nat), a ≤ K → K - a < n → (∀ b o, b < a → o ≤ P → wo W b (T g b) ≤ wo W b o) → ∃ r, f_X7_canAnyRise_2 N (nI K) cl ct cw n (nI g) (nI a) = some r ∧ ((r = 0 ∧ ∀ b o, b < K → o ≤ P → wo W b (T g b) ≤ wo W b o) ∨ (r = 1 ∧ ∃ b o, b < K ∧ o ≤ P ∧ Opn W b o ∧ wo W b o < wo W b (T g b))) := by
  have hK := hG.K8
  intro n
  induction n with
  | zero => intro a h1 h2; omega
  | succ n ih =>
    intro a h1 h2 h3
    rw [f_X7_canAnyRise_2]
    by_cases hc : K ≤ a
    · have : a = K := by omega
      subst this
      rw [if_pos (nI_le (Nat.le_refl _) (by omega))]
      exact ⟨0, rfl, Or.inl ⟨rfl, h3⟩⟩
    · have h6 := hG.T6 g a
      obtain ⟨o, o1, o2, o3, o4⟩ := firstWorth_ok (N := N) hG.P6 hG.W6 hw4 hl (show a < 8 by omega)
      have w1 := wo_le W hG.W6 a o
      have w2 := wo_le W hG.W6 a (T g a)
      rw [if_neg (nI_ge (by omega) (by omega)), o3, bd, X0_toldWorth_ok hG.W6 hw4 ht5 hg (show a < 8 by omega) h6, bd]
      by_cases hle : wo W a (T g a) ≤ wo W a o
      · rw [if_pos (nI_le hle (by omega)), nI_1]
        exact ih (a + 1) (by omega) (by omega) (fun b o' hb ho' => by
          rcases Nat.lt_or_ge b a with z | z
          · exact h3 b o' z ho'
          · have e : b = a := by omega
            rw [e]; exact Nat.le_trans hle (o4 o' ho'))
      · rw [if_neg (nI_ge (by omega) (by omega))]
        exact ⟨1, rfl, Or.inr ⟨rfl, a, o, by omega, o1, o2, by omega⟩⟩
theorem one_ct {p : Nat → Bool} {c : Nat} : ∀ n, (∀ a, a < n → p a = true → a = c) → fb_ct p n ≤ 1
  | 0, _ => Nat.zero_le _
  | n + 1, h => by
    rw [fb_ct_succ]
    cases hp : p n with
    | false =>
      have := one_ct n (fun a ha => h a (by omega))
      simpa using this
    | true =>
      have e := h n (by omega) hp
      have : fb_ct p n = 0 := fb_ct_zero.mpr (fun a ha => by
        cases hq : p a with
        | false => rfl
        | true => have := h a (by omega) hq; omega)
      rw [this]; simp
theorem GD_Gv (hG : GD K P S W T) (g : Nat) : Gv K P S W (T g) := ⟨fun a _ => hG.TP g a, fun a q _ h => hG.TW g a q h, fun q hq => hG.TS g q hq⟩
theorem kick (hG : GD K P S W T) {g : Nat} (hg : g < 4) {b o : Nat} (hb : b < K) (ho : o ≤ P) (hop : Opn W b o) (hlt : wo W b o < wo W b (T g b)) : ∃ x y, 1 ≤ x ∧ y ≤ 1 ∧ AtG K P S W (T g) x y := by
  have fin : ∀ (t : Nat → Nat) (c : Nat), Gv K P S W t → t b = o → (∀ a, a < K → a ≠ b → a ≠ c → t a = T g a) → ∃ x y, 1 ≤ x ∧ y ≤ 1 ∧ AtG K P S W (T g) x y := by
    intro t c h1 h2 h3
    refine ⟨_, _, ?_, ?_, t, h1, rfl, rfl⟩
    · exact fb_ct_pos.mpr ⟨b, hb, by rw [h2]; exact decide_eq_true hlt⟩
    · refine one_ct (c := c) K (fun a ha hp => ?_)
      have hp := of_decide_eq_true hp
      by_cases e1 : a = b
      · rw [e1, h2] at hp; omega
      · by_cases e2 : a = c
        · exact e2
        · rw [h3 a ha e1 e2] at hp; omega
  cases o with
  | zero =>
    have h7 : wo W b (T g b) ≤ 7 := wo_open hG.W6 (fun q hq => hG.TW g b q hq)
    have : wo W b 0 = 7 := rfl
    omega
  | succ q =>
    have hw := hop q rfl
    by_cases hr : hadX K (T g) (q + 1) b < S q
    · have h2 := GD_tell hG hg hb ho (fun q' hq' => by rw [show q' = q by omega]; exact ⟨hw, hr⟩)
      refine fin (upT T g b (q + 1) g) b (GD_Gv h2 g) (by unfold upT; rw [if_pos ⟨rfl, rfl⟩]) (fun a _ h1 _ => by unfold upT; rw [if_neg (fun z => h1 z.2)])
    · have hpos : 0 < hadX K (T g) (q + 1) b := by have := hG.S1 (show q < P by omega); omega
      obtain ⟨c, hc, hcp⟩ := fb_ct_pos.mp hpos
      simp only [Bool.and_eq_true, decide_eq_true_eq, Bool.not_eq_true', decide_eq_false_iff_not] at hcp
      have h1 := GD_tell (o := 0) hG hg hc (Nat.zero_le _) (fun q' hq' => absurd hq' (by omega))
      have hone := hadX_one (K := K) (T g) (q + 1) hb
      have hTS := hG.TS g q (by omega)
      have hroom : hadX K (upT T g c 0 g) (q + 1) b < S q := by
        have hu := fb_ct_upd (fun a => decide (T g a = q + 1) && !decide (a = b)) false (i := c) (n := K) hc
        have e : hadX K (upT T g c 0 g) (q + 1) b = fb_ct (fun k => if k = c then false else decide (T g k = q + 1) && !decide (k = b)) K := fb_ct_cong (fun a ha => by
          unfold upT
          by_cases e : a = c
          · rw [if_pos ⟨rfl, e⟩, if_pos e]; simp
          · rw [if_neg (fun z => e z.2), if_neg e])
        rw [if_pos (by simp [hcp.1, hcp.2])] at hu
        have e2 : fb_ct (fun a => decide (T g a = q + 1) && !decide (a = b)) K = hadX K (T g) (q + 1) b := rfl
        rw [e2] at hu
        rw [e]
        simp only [Bool.false_eq_true, if_false] at hu
        omega
      have h2 := GD_tell h1 hg hb ho (fun q' hq' => by rw [show q' = q by omega]; exact ⟨hw, hroom⟩)
      refine fin _ c (GD_Gv h2 g) (by unfold upT; rw [if_pos ⟨rfl, rfl⟩]) (fun a _ e1 e2 => by
        unfold upT
        rw [if_neg (fun z => e1 z.2), if_neg (fun z => e2 z.2)])
/-! the best of votes, as numbers of risers and fallers -/
theorem tl_of : ∀ (os : List Nat) (t : Nat → Nat) (a : Nat), (∀ j, j < os.length → t (a + j) = os.getD j 0) → tl t a os.length = os
  | [], _, _, _ => rfl
  | o :: os, t, a, h => by
    rw [List.length_cons, tl, tl_of os t (a + 1) (fun j hj => by
      have := h (j + 1) (by rw [List.length_cons]; omega)
      rw [show a + 1 + j = a + (j + 1) by omega]
      exact this), show t a = o from h 0 (by rw [List.length_cons]; omega)]
theorem sI_votes {g : Nat} {rz : Int} {fz : Option Int} {t : Nat → Nat} : ∀ (n a : Nat), (∀ i, a ≤ i → i < a + n → wo W i (t i) ≤ 7) → (∀ i, a ≤ i → i < a + n → fz = none → ¬ wo W i (T g i) < wo W i (t i)) →
    sI (vRow W T g rz fz) t a n + rz * (rise a W t (T g) : Nat) + fz.getD 0 * (rise a W (T g) t : Nat) = rz * (rise (a + n) W t (T g) : Nat) + fz.getD 0 * (rise (a + n) W (T g) t : Nat)
  | 0, a, _, _ => by rw [sI, Nat.add_zero]; omega
  | n + 1, a, h, h' => by
    have ih := sI_votes n (a + 1) (rz := rz) (fz := fz) (g := g) (t := t) (fun i h1 h2 => h i (by omega) (by omega)) (fun i h1 h2 => h' i (by omega) (by omega))
    rw [rise_succ, rise_succ, show a + 1 + n = a + (n + 1) by omega] at ih
    have h7 := h a (Nat.le_refl _) (by omega)
    have hrow : (vRow W T g rz fz a (t a)).getD 0 = (if wo W a (t a) < wo W a (T g a) then rz else 0) + (if wo W a (T g a) < wo W a (t a) then fz.getD 0 else 0) := by
      unfold vRow
      rw [if_neg (by omega)]
      by_cases h1 : wo W a (t a) < wo W a (T g a)
      · rw [if_pos h1, if_pos h1, if_neg (by omega)]; simp
      · rw [if_neg h1, if_neg h1]
        by_cases h2 : wo W a (T g a) < wo W a (t a)
        · rw [if_pos h2, if_pos h2]; simp
        · rw [if_neg h2, if_neg h2]; simp
    rw [sI, hrow]
    have d1 : rz * ((rise a W t (T g) + (if wo W a (t a) < wo W a (T g a) then 1 else 0) : Nat) : Int) = rz * (rise a W t (T g) : Nat) + (if wo W a (t a) < wo W a (T g a) then rz else 0) := by
      by_cases h1 : wo W a (t a) < wo W a (T g a)
      · rw [if_pos h1, if_pos h1, Int.natCast_add, Int.mul_add]; simp
      · rw [if_neg h1, if_neg h1]; simp
    have d2 : fz.getD 0 * ((rise a W (T g) t + (if wo W a (T g a) < wo W a (t a) then 1 else 0) : Nat) : Int) = fz.getD 0 * (rise a W (T g) t : Nat) + (if wo W a (T g a) < wo W a (t a) then fz.getD 0 else 0) := by
      by_cases h1 : wo W a (T g a) < wo W a (t a)
      · rw [if_pos h1, if_pos h1, Int.natCast_add, Int.mul_add]; simp
      · rw [if_neg h1, if_neg h1]; simp
    rw [d1, d2] at ih
    omega
theorem rise_zero (t m : Nat → Nat) : rise 0 W t m = 0 := rfl
theorem votes_val (hG : GD K P S W T) {g : Nat} {rz : Int} {fz : Option Int} {t : Nat → Nat} (ht : Gv K P S W t) (hy : fz = none → rise K W (T g) t = 0) {B : Int} {M : Nat} (hb : bw P (rf (vRow W T g rz fz) 0 K) S = some (B, M)) :
    rz * (rise K W t (T g) : Nat) + fz.getD 0 * (rise K W (T g) t : Nat) ≤ B := by
  have hW7 : ∀ i, i < K → wo W i (t i) ≤ 7 := fun i hi => wo_open hG.W6 (fun q hq => ht.2.1 i q hi hq)
  have hno : ∀ i, i < K → fz = none → ¬ wo W i (T g i) < wo W i (t i) := fun i hi hz hlt => by
    have := fb_ct_zero.mp (hy hz) i hi
    rw [decide_eq_true hlt] at this
    cases this
  have hc : ∀ b, b < K → (fun a => if a < K then t a else 0) b = t b := fun b hb => by simp [hb]
  have h := gv_tl (P := P) (S := S) (K := K) (r := vRow W T g rz fz) (t := fun a => if a < K then t a else 0) (fun a => by
      by_cases e : a < K
      · simp only [if_pos e]; exact ht.1 a e
      · simp only [if_neg e]; exact Nat.zero_le _) (fun q hq => by rw [had_cong hc]; exact ht.2.2 q hq) K 0 (by omega) (fun i _ hi => by
      simp only [if_pos hi]
      unfold vRow
      rw [if_neg (by have := hW7 i hi; omega)]
      by_cases h1 : wo W i (t i) < wo W i (T g i)
      · rw [if_pos h1]; intro z; cases z
      · rw [if_neg h1]
        by_cases h2 : wo W i (T g i) < wo W i (t i)
        · rw [if_pos h2]; exact fun z => hno i hi z h2
        · rw [if_neg h2]; intro z; cases z)
  rw [lft_0] at h
  obtain ⟨B', M', h1, h2⟩ := gv_le P _ _ _ _ h
  rw [hb] at h1
  cases h1
  have hs := sI_votes (W := W) (T := T) (g := g) (rz := rz) (fz := fz) (t := fun a => if a < K then t a else 0) K 0 (fun i _ hi => by
      have : i < K := by omega
      simp only [if_pos this]; exact hW7 i this) (fun i _ hi hz => by
      have : i < K := by omega
      simp only [if_pos this]; exact hno i this hz)
  rw [rise_zero, rise_zero, Nat.zero_add, rise_cong hc (fun _ _ => rfl), rise_cong (fun _ _ => rfl) hc] at hs
  omega
theorem votes_path (hG : GD K P S W T) {g : Nat} {rz : Int} {fz : Option Int} {B : Int} {M : Nat} (hb : bw P (rf (vRow W T g rz fz) 0 K) S = some (B, M)) :
    ∃ t, t = nthT P (rf (vRow W T g rz fz) 0 K) S 0 ∧ Gv K P S W t ∧ (∀ a, t a ≤ 6) ∧ (fz = none → rise K W (T g) t = 0) ∧ B = rz * (rise K W t (T g) : Nat) + fz.getD 0 * (rise K W (T g) t : Nat) := by
  have hM := bw_pos P _ _ _ _ hb
  have h := nth_ok P _ S B M 0 hb hM
  have hlen := gv_len P _ _ _ _ h
  rw [rf_len] at hlen
  obtain ⟨v1, v2⟩ := gv_valid K 0 S _ _ h
  have hP6 := hG.P6
  have hw : ∀ a, a < K → wo W a (nthT P (rf (vRow W T g rz fz) 0 K) S 0 a) ≤ 7 := by
    intro a ha
    have := (v1 a ha).2
    rw [Nat.zero_add] at this
    unfold vRow at this
    by_cases e : 7 < wo W a ((nth P (rf (vRow W T g rz fz) 0 K) S 0).getD a 0)
    · have e' := e
      unfold vRow at e'
      rw [if_pos e'] at this
      exact absurd rfl this
    · show wo W a ((nth P (rf (vRow W T g rz fz) 0 K) S 0).getD a 0) ≤ 7
      omega
  have hno : ∀ a, a < K → fz = none → ¬ wo W a (T g a) < wo W a (nthT P (rf (vRow W T g rz fz) 0 K) S 0 a) := by
    intro a ha hz hlt
    have := (v1 a ha).2
    rw [Nat.zero_add] at this
    apply this
    have hlt' : wo W a (T g a) < wo W a ((nth P (rf (vRow W T g rz fz) 0 K) S 0).getD a 0) := hlt
    have h7 : wo W a ((nth P (rf (vRow W T g rz fz) 0 K) S 0).getD a 0) ≤ 7 := hw a ha
    generalize (nth P (rf (vRow W T g rz fz) 0 K) S 0).getD a 0 = o at *
    unfold vRow
    rw [if_neg (by omega), if_neg (by omega), if_pos hlt', hz]
  have hle : ∀ a, nthT P (rf (vRow W T g rz fz) 0 K) S 0 a ≤ P := by
    intro a
    rcases Nat.lt_or_ge a K with z | z
    · exact (v1 a z).1
    · show (nth P (rf (vRow W T g rz fz) 0 K) S 0).getD a 0 ≤ P
      rw [List.getD_eq_getElem?_getD, List.getElem?_eq_none (by omega)]
      exact Nat.zero_le _
  have hGv : Gv K P S W (nthT P (rf (vRow W T g rz fz) 0 K) S 0) := ⟨fun a _ => hle a, fun a q ha hq => by
    have := hw a ha
    rw [hq] at this
    unfold wo at this
    simp only at this
    rcases Nat.eq_zero_or_pos (W a q) with z | z
    · rw [if_pos z] at this; omega
    · exact z, v2⟩
  refine ⟨_, rfl, hGv, fun a => Nat.le_trans (hle a) hP6, fun hz => fb_ct_zero.mpr (fun a ha => decide_eq_false (hno a ha hz)), ?_⟩
  have h2 := gv_tl (P := P) (S := S) (K := K) (r := vRow W T g rz fz) (t := nthT P (rf (vRow W T g rz fz) 0 K) S 0) hle (fun q hq => hGv.2.2 q hq) K 0 (by omega) (fun i _ hi => by
    have := (v1 i hi).2
    rw [Nat.zero_add] at this
    exact this)
  have htl : tl (nthT P (rf (vRow W T g rz fz) 0 K) S 0) 0 K = nth P (rf (vRow W T g rz fz) 0 K) S 0 := by
    have := tl_of (nth P (rf (vRow W T g rz fz) 0 K) S 0) (nthT P (rf (vRow W T g rz fz) 0 K) S 0) 0 (fun j hj => by rw [Nat.zero_add]; rfl)
    rw [hlen] at this
    exact this
  rw [lft_0, htl, h] at h2
  have hB : B = sI (vRow W T g rz fz) (nthT P (rf (vRow W T g rz fz) 0 K) S 0) 0 K := Option.some.inj h2
  have hs := sI_votes (W := W) (T := T) (g := g) (rz := rz) (fz := fz) (t := nthT P (rf (vRow W T g rz fz) 0 K) S 0) K 0 (fun i _ hi => hw i (by omega)) (fun i _ hi => hno i (by omega))
  rw [rise_zero, rise_zero, Nat.zero_add] at hs
  rw [hB]
  omega
end RISE
