/-! PREFER: the reference's most risers for each number of fallers -/
section PREFER
variable {N K P : Nat} {S : Nat → Nat} {W T : Nat → Nat → Nat} {m : Nat → Nat} {ms mt mw weight : Nat → Int32}
/-- v is one more than the greatest of R, 0 where there is none -/
def FV (R : Nat → Prop) (v : Nat) : Prop := (∀ x, R x → x + 1 ≤ v) ∧ (v = 0 ∨ R (v - 1))
theorem FV_cong {R R' : Nat → Prop} {v : Nat} (h : ∀ x, R x ↔ R' x) (hv : FV R v) : FV R' v := ⟨fun x hx => hv.1 x ((h x).mpr hx), hv.2.imp id (fun z => (h _).mp z)⟩
def PT (P : Nat) (S : Nat → Nat) (W : Nat → Nat → Nat) (m : Nat → Nat) (a : Nat) (pref : Nat → Int32) : Prop := ∀ y s, y ≤ 8 → s < wgt S P → ∃ v, v ≤ 9 ∧ pref (4096 * y + s) = oI v ∧ FV (RC P S W m a y s) v
/-- reached after a + 1 by the steps done so far -/
def RD (P : Nat) (S : Nat → Nat) (W : Nat → Nat → Nat) (m : Nat → Nat) (D : Nat → Nat → Nat → Prop) (a y s x : Nat) : Prop := ∃ y0 s0 x0 o, D y0 s0 o ∧ RC P S W m a y0 s0 x0 ∧ o ≤ P ∧ tkS S W a o s0 = some s ∧ x = x0 + (if wo W a o < wo W a (m a) then 1 else 0) ∧ y = y0 + (if wo W a (m a) < wo W a o then 1 else 0)
def NT (P : Nat) (S : Nat → Nat) (W : Nat → Nat → Nat) (m : Nat → Nat) (D : Nat → Nat → Nat → Prop) (a : Nat) (next : Nat → Int32) : Prop := ∀ y s, y ≤ 8 → s < wgt S P → ∃ v, v ≤ 9 ∧ next (4096 * y + s) = oI v ∧ FV (RD P S W m D a y s) v
def dn (Y s o : Nat) : Nat → Nat → Nat → Prop := fun y0 s0 o' => y0 < Y ∨ (y0 = Y ∧ (s0 < s ∨ (s0 = s ∧ o' < o)))
theorem NT_iff {D D' : Nat → Nat → Nat → Prop} {a : Nat} {next : Nat → Int32} (h : ∀ y0 s0 x0 o s', RC P S W m a y0 s0 x0 → o ≤ P → tkS S W a o s0 = some s' → (D y0 s0 o ↔ D' y0 s0 o)) (hn : NT P S W m D a next) : NT P S W m D' a next := by
  intro y s hy hsl
  obtain ⟨v, v0, v1, v2⟩ := hn y s hy hsl
  refine ⟨v, v0, v1, FV_cong (fun x => ?_) v2⟩
  constructor
  · rintro ⟨y0, s0, x0, o, h1, h2, h3, h4, h5⟩
    exact ⟨y0, s0, x0, o, (h y0 s0 x0 o s h2 h3 h4).mp h1, h2, h3, h4, h5⟩
  · rintro ⟨y0, s0, x0, o, h1, h2, h3, h4, h5⟩
    exact ⟨y0, s0, x0, o, (h y0 s0 x0 o s h2 h3 h4).mpr h1, h2, h3, h4, h5⟩
theorem NT_push {Y s o s' x' y' x0 v : Nat} {a : Nat} {next : Nat → Int32} (hn : NT P S W m (dn Y s o) a next) (hr : RC P S W m a Y s x0) (hmax : ∀ x, RC P S W m a Y s x → x ≤ x0) (ho : o ≤ P) (ht : tkS S W a o s = some s') (hx : x' = x0 + (if wo W a o < wo W a (m a) then 1 else 0)) (hy : y' = Y + (if wo W a (m a) < wo W a o then 1 else 0)) (hP4 : wgt S P ≤ 4096)
    (hv : next (4096 * y' + s') = oI v) (hvF : FV (RD P S W m (dn Y s o) a y' s') v) (hv9 : v ≤ 9) (hx9 : x' < 9) : NT P S W m (dn Y s (o + 1)) a (upd next (4096 * y' + s') (oI (if x' + 1 ≤ v then v else x' + 1))) := by
  have hsl : s' < wgt S P := by have := (RC_le _ _ _ _ hr).2.2; have := tkS_le ht; omega
  intro y2 s2 h1 h2
  by_cases e : 4096 * y2 + s2 = 4096 * y' + s'
  · have e1 : y2 = y' := by omega
    have e2 : s2 = s' := by omega
    subst e1; subst e2
    refine ⟨_, by split <;> omega, pk_us, ?_, ?_⟩
    · rintro x ⟨a0, b0, c0, o0, d1, d2, d3, d4, d5, d6⟩
      by_cases hd : dn Y s o a0 b0 o0
      · have := hvF.1 x ⟨a0, b0, c0, o0, hd, d2, d3, d4, d5, d6⟩
        split <;> omega
      · have : a0 = Y ∧ b0 = s ∧ o0 = o := by
          unfold dn at d1 hd
          omega
        obtain ⟨p1, p2, p3⟩ := this
        subst p1; subst p2; subst p3
        have := hmax c0 d2
        split <;> omega
    · by_cases hc : x' + 1 ≤ v
      · rw [if_pos hc]
        refine hvF.2.imp id ?_
        rintro ⟨a0, b0, c0, o0, d1, d2⟩
        exact ⟨a0, b0, c0, o0, by unfold dn at d1 ⊢; omega, d2⟩
      · rw [if_neg hc]
        exact Or.inr ⟨Y, s, x0, o, by unfold dn; omega, hr, ho, ht, by omega, hy⟩
  · obtain ⟨v2, w0, w1, w2⟩ := hn y2 s2 h1 h2
    refine ⟨v2, w0, by rw [pk_un e]; exact w1, FV_cong (fun x => ?_) w2⟩
    constructor
    · rintro ⟨a0, b0, c0, o0, d1, d2⟩
      exact ⟨a0, b0, c0, o0, by unfold dn at d1 ⊢; omega, d2⟩
    · rintro ⟨a0, b0, c0, o0, d1, d2, d3, d4, d5, d6⟩
      refine ⟨a0, b0, c0, o0, ?_, d2, d3, d4, d5, d6⟩
      by_cases hd : dn Y s o a0 b0 o0
      · exact hd
      · exfalso
        have : a0 = Y ∧ b0 = s ∧ o0 = o := by
          unfold dn at d1 hd
          omega
        obtain ⟨p1, p2, p3⟩ := this
        subst p1; subst p2; subst p3
        rw [ht] at d4
        cases d4
        apply e
        rw [d6, ← hy]
theorem pr_126 (hK : K ≤ 8) (hP : P ≤ 6) (hs : ∀ q, q < 6 → ms q = nI (S q)) (hS : ∀ q, q < 6 → S q ≤ 3) (hW : ∀ a q, W a q ≤ 6) (hw : ∀ a q, a < 8 → q < 6 → mw (a * 6 + q) = nI (W a q)) (hwt : ∀ j, j < P → weight j = nI (wgt S j)) {g a Y s : Nat} (ha : a < K) (hY : Y ≤ a) (hsl : s < wgt S P) {pref : Nat → Int32} (hp : PT P S W m a pref)  (k98 : Int32 → (Nat → Int32) → (Nat → Int32) → (Nat → Int32) → Int32 → Int32 → Int32 → Int32 → Int32 → Option (Int32 × (Nat → Int32) × (Nat → Int32) × (Nat → Int32))) :
    ∀ (n o : Nat) (next : Nat → Int32), o ≤ P + 1 → P + 1 - o < n → NT P S W m (dn Y s o) a next →
      ∃ next', f_X8_findPrefer_126 N (nI K) (nI P) ms mt mw k98 n (nI (wgt S P - 1)) next pref weight (nI g) (nI a) (nI (wo W a (m a))) (nI Y) (nI s) (pref (4096 * Y + s)) (nI o) = k98 (nI (wgt S P - 1)) next' pref weight (nI g) (nI a) (nI (wo W a (m a))) (nI Y) (nI (s + 1)) ∧ NT P S W m (dn Y (s + 1) 0) a next' := by
  have hW4 := wgt_le6 S hS hP
  obtain ⟨v0, v09, hv0, hvF⟩ := hp Y s (by omega) hsl
  rw [hv0]
  intro n
  induction n with
  | zero => intro o next h1 h2; omega
  | succ n ih =>
    intro o next h1 h2 h3
    rw [f_X8_findPrefer_126]
    by_cases hc : P < o
    · rw [if_pos (nI_lt hc (by omega)), nI_1]
      exact ⟨next, rfl, NT_iff (fun y0 s0 x0 o' s' r1 r2 r3 => by unfold dn; omega) h3⟩
    · rw [if_neg (nI_nlt (by omega) (by omega))]
      by_cases hv : v0 = 0
      · rw [if_pos (by rw [hv]; rfl), nI_1]
        refine ⟨next, rfl, NT_iff (fun y0 s0 x0 o' s' r1 r2 r3 => ?_) h3⟩
        have : ¬ (y0 = Y ∧ s0 = s) := by
          rintro ⟨e1, e2⟩
          have := hvF.1 x0 (by rw [← e1, ← e2]; exact r1)
          omega
        unfold dn; omega
      · obtain ⟨x0, rfl⟩ : ∃ x0, v0 = x0 + 1 := ⟨v0 - 1, by omega⟩
        have hr : RC P S W m a Y s x0 := by
          rcases hvF.2 with z | z
          · omega
          · exact z
        have hmax : ∀ x, RC P S W m a Y s x → x ≤ x0 := fun x hx => by have := hvF.1 x hx; omega
        have hxa := (RC_le _ _ _ _ hr).2.1
        rw [oI_s] at ih ⊢
        rw [if_neg (nI_neg1 (by omega)), X8_takes_ok N hP hs hS hW hw hwt (by omega) (by omega) (by omega), bd]
        cases ht : tkS S W a o s with
        | none =>
          unfold oN
          simp only
          rw [if_pos trivial, nI_1]
          refine ih (o + 1) next (by omega) (by omega) (NT_iff (fun y0 s0 x1 o' s' r1 r2 r3 => ?_) h3)
          have : ¬ (s0 = s ∧ o' = o) := by
            rintro ⟨e1, e2⟩
            rw [e1, e2, ht] at r3
            cases r3
          unfold dn; omega
        | some s' =>
          have hs' := tkS_le ht
          have ho1 := wo_le W hW a o
          have ho2 := wo_le W hW a (m a)
          unfold oN
          simp only
          rw [if_neg (nI_neg1 (by omega)), X8_worthOf_ok N hW hw (by omega) (by omega), bd]
          -- the cell written
          have push : ∀ y' x', x' = x0 + (if wo W a o < wo W a (m a) then 1 else 0) → y' = Y + (if wo W a (m a) < wo W a o then 1 else 0) → ∃ next', f_X8_findPrefer_206 N (nI K) (nI P) ms mt mw (f_X8_findPrefer_126 N (nI K) (nI P) ms mt mw k98 n) (nI (wgt S P - 1)) next pref weight (nI g) (nI a) (nI (wo W a (m a))) (nI Y) (nI s) (nI x0) (nI o) (nI (4096 * y' + s')) (nI x') = k98 (nI (wgt S P - 1)) next' pref weight (nI g) (nI a) (nI (wo W a (m a))) (nI Y) (nI (s + 1)) ∧ NT P S W m (dn Y (s + 1) 0) a next' := by
            intro y' x' hx' hy'
            have hy8 : y' ≤ 8 := by rw [hy']; split <;> omega
            have hx8 : x' ≤ 8 := by rw [hx']; split <;> omega
            obtain ⟨v, w0, w1, w2⟩ := h3 y' s' hy8 (by omega)
            have hN2 := NT_push h3 hr hmax (show o ≤ P by omega) ht hx' hy' hW4 w1 w2 w0 (by omega)
            unfold f_X8_findPrefer_206 f_X8_findPrefer_238
            rw [rdI_n _ (by omega) (by decide), bd, w1]
            by_cases hle : x' + 1 ≤ v
            · rw [if_pos hle] at hN2
              rw [if_pos (by rw [q_leo (by omega) (by omega)]; exact hle), bd, wrI_n _ _ (by omega) (by decide), bd, nI_1]
              exact ih (o + 1) _ (by omega) (by omega) hN2
            · rw [if_neg hle, oI_s] at hN2
              rw [if_neg (by rw [q_leo (by omega) (by omega)]; exact hle), wrI_n _ _ (by omega) (by decide), bd, nI_1]
              exact ih (o + 1) _ (by omega) (by omega) hN2
          have ix : ∀ y', (4096 : Int32) * nI y' + nI s' = nI (4096 * y' + s') := fun y' => by rw [show (4096 : Int32) = nI 4096 from rfl, nI_mul, nI_add]
          unfold f_X8_findPrefer_185
          by_cases c1 : wo W a o ≤ wo W a (m a)
          · rw [if_pos (nI_le c1 (by omega))]
            by_cases c2 : wo W a (m a) ≤ wo W a o
            · rw [if_pos (nI_le c2 (by omega)), ix]
              exact push Y x0 (by rw [if_neg (by omega)]; rfl) (by rw [if_neg (by omega)]; rfl)
            · rw [if_neg (nI_ge (by omega) (by omega)), ix, nI_1]
              exact push Y (x0 + 1) (by rw [if_pos (by omega)]) (by rw [if_neg (by omega)]; rfl)
          · rw [if_neg (nI_ge (by omega) (by omega)), if_pos (nI_le (by omega) (by omega)), nI_1, ix]
            exact push (Y + 1) x0 (by rw [if_neg (by omega)]; rfl) (by rw [if_pos (by omega)])
end PREFER
