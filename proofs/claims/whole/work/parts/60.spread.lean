/-! class Search: all entries, level by level -/
section SPREAD
variable {N K P : Nat} {S : Nat → Nat} {gains ca co ct : Nat → Int32}
theorem two_m2 (q : Nat) : 2 * nI (q + 1) - 2 = 2 * nI q := by
  rw [nI_2mul, nI_2mul, show (2 : Int32) = nI 2 from rfl, pk_sub (by omega)]
  congr 1
def tt (K : Nat) (gains : Nat → Int32) (k q : Nat) : Nat := if k = 0 then 8 else tq K gains k q
theorem tt_le (hK : K ≤ 8) {k q : Nat} (hk : k ≤ K) : tt K gains k q ≤ 8 - k := by
  unfold tt
  split
  · omega
  · have := tq_le (gains := gains) (q := q) hk
    omega
theorem tq_mono {k q : Nat} (h : k < K) : tq K gains (k + 1) q ≤ tq K gains k q := by
  rw [tq_step h]; omega
def upN (f : Nat → Nat) (k v : Nat) : Nat → Nat := fun i => if i = k then v else f i
/-- entries F .. E - 1 are states of level k, no two alike -/
def LvOk (S t : Nat → Nat) (k : Nat) (lf : Nat → Nat) (F E : Nat) : Prop := ∀ i, F ≤ i → i < E → RS S t k (lf i) ∧ ∀ j, i < j → j < E → lf i ≠ lf j
def NxOk (K P : Nat) (gains next : Nat → Int32) (lf : Nat → Nat) (s e k F E c : Nat) : Prop := match gRow gains k c with
  | none => next (e * 7 + c) = -1
  | some _ => match tk (d4 s) c with
    | none => next (e * 7 + c) = -1
    | some σ' => ∃ j, F ≤ j ∧ j < E ∧ next (e * 7 + c) = nI j ∧ ∀ q, q < P → min (d4 (lf j) q) (tq K gains (k + 1) q) = min (σ' q) (tq K gains (k + 1) q)
theorem NxOk_mono {next next' : Nat → Int32} {lf lf' : Nat → Nat} {s e k F E E' c : Nat} (h : NxOk K P gains next lf s e k F E c) (hE : E ≤ E') (hlf : ∀ i, i < E → lf' i = lf i) (hn : next' (e * 7 + c) = next (e * 7 + c)) : NxOk K P gains next' lf' s e k F E' c := by
  unfold NxOk at h ⊢
  rw [hn]
  cases hg : gRow gains k c with
  | none => rw [hg] at h; exact h
  | some γ =>
    rw [hg] at h
    simp only at h ⊢
    cases ht : tk (d4 s) c with
    | none => rw [ht] at h; exact h
    | some σ' =>
      rw [ht] at h
      simp only at h ⊢
      obtain ⟨j, j1, j2, j3, j4⟩ := h
      exact ⟨j, j1, by omega, j3, fun q hq => by rw [hlf j j2]; exact j4 q hq⟩
def SI (S t : Nat → Nat) (k F E : Nat) (lf : Nat → Nat) (left slots : Nat → Int32) : Prop :=
  F ≤ E ∧ E ≤ 1056 ∧ (∀ e, e < E → lf e < 4096 ∧ left e = nI (lf e)) ∧ SlOk F E lf slots ∧ LvOk S t k lf F E
/-- a state's child is a state of the next level -/
theorem RS_child (hK : K ≤ 8) (hP : P ≤ 6) (hS0 : ∀ q, P ≤ q → S q = 0) {k s c : Nat} {σ' : Sv} (hk : k < K) (hc : c ≤ P) (h : RS S (tt K gains k) k s) (hg : gRow gains k c ≠ none) (ht : tk (d4 s) c = some σ') {s' : Nat} (hs' : ∀ q, d4 s' q = σ' q) :
    RS S (tt K gains (k + 1)) (k + 1) (clipS (tq K gains (k + 1)) P s') := by
  obtain ⟨σ, h1, h2, h3, h4⟩ := h
  have htt : ∀ q, tt K gains (k + 1) q = tq K gains (k + 1) q := fun q => by unfold tt; rw [if_neg (by omega)]
  have hlow : ∀ q, tq K gains (k + 1) q ≤ tt K gains k q := fun q => by
    unfold tt
    split
    · have := tq_le (gains := gains) (q := q) (show k + 1 ≤ K by omega); omega
    · exact tq_mono hk
  cases c with
  | zero =>
    have e : σ' = d4 s := by
      unfold tk at ht
      simpa using ht.symm
    refine ⟨σ, h1, by omega, clipS_lt _ _ _, fun q hq => ?_⟩
    rw [htt]
    unfold clipS
    rw [zN_dig hP hq, hs', e, h4 q hq]
    have := hlow q
    by_cases hqP : q < P
    · rw [if_pos hqP]; omega
    · rw [if_neg hqP]
      have := h1 q hq
      rw [hS0 q (by omega)] at this
      omega
  | succ p =>
    unfold tk at ht
    simp only at ht
    by_cases h0 : 0 < d4 s p
    · rw [if_pos h0] at ht
      have e : σ' = dec (d4 s) p := by simpa using ht.symm
      have hp4 := h4 p (by omega)
      have hσp : 0 < σ p := by omega
      have htp : tq K gains (k + 1) p + 1 ≤ tt K gains k p := by
        unfold tt
        split
        · have := tq_le (gains := gains) (q := p) (show k + 1 ≤ K by omega); omega
        · rw [tq_step hk, if_neg (fun z => hg (by unfold gRow; rw [if_pos z]))]
          exact Nat.le_refl _
      refine ⟨dec σ p, fun q hq => ?_, ?_, clipS_lt _ _ _, fun q hq => ?_⟩
      · have := h1 q hq
        unfold dec; split <;> omega
      · have hu := fb_sm_upd (fun q => S q - σ q) (S p - (σ p - 1)) (show p < 6 by omega)
        have e2 : fb_sm (fun q => S q - dec σ p q) 6 = fb_sm (fun q => if q = p then S p - (σ p - 1) else S q - σ q) 6 := fb_sm_cong (fun q _ => by
          unfold dec
          by_cases z : q = p
          · rw [if_pos z, if_pos z, z]
          · rw [if_neg z, if_neg z])
        rw [e2]
        have := h1 p (by omega)
        omega
      · rw [htt]
        unfold clipS
        rw [zN_dig hP hq, hs', e]
        have hl := hlow q
        have h4q := h4 q hq
        unfold dec
        by_cases z : q = p
        · rw [if_pos z, if_pos z, if_pos (by omega), z]
          omega
        · rw [if_neg z, if_neg z]
          by_cases hqP : q < P
          · rw [if_pos hqP]; omega
          · rw [if_neg hqP]
            have := h1 q hq
            rw [hS0 q (by omega)] at this
            omega
    · rw [if_neg h0] at ht; cases ht
theorem spreadEntry_10_ok (hK : K ≤ 8) (hP : P ≤ 6) (hS0 : ∀ q, P ≤ q → S q = 0) {fo : Nat → Int32} {k e F s : Nat} (hk : k < K) (he : e < F) (hfo : fo (k + 1) = nI F) (hcl : ClOk (tq K gains) (k + 1) P ca co ct)
    (hcap : ∀ (lf' : Nat → Nat) (E' : Nat), F ≤ E' → LvOk S (tt K gains (k + 1)) (k + 1) lf' F E' → E' ≤ 1056) (hs : RS S (tt K gains k) k s) (next0 : Nat → Int32) :
    ∀ (n c E : Nat) (lf : Nat → Nat) (left next slots : Nat → Int32), c ≤ P + 1 → P + 1 - c < n → SI S (tt K gains (k + 1)) (k + 1) F E lf left slots → (∀ c', c' < c → NxOk K P gains next lf s e k F E c') → (∀ x, (x < e * 7 ∨ e * 7 + 7 ≤ x) → next x = next0 x) →
      ∃ E' lf' left' next' slots', E ≤ E' ∧ (∀ i, i < E → lf' i = lf i) ∧ SI S (tt K gains (k + 1)) (k + 1) F E' lf' left' slots' ∧ (∀ c', c' ≤ P → NxOk K P gains next' lf' s e k F E' c') ∧ (∀ x, (x < e * 7 ∨ e * 7 + 7 ≤ x) → next' x = next0 x) ∧
        f_X4_spreadEntry_10 N (nI P) ca co ct fo gains n (nI E) left next slots (nI k) (nI e) (nI s) (nI c) = some (nI E', left', next', slots') := by
  have hs4 : s < 4096 := by obtain ⟨_, _, _, h, _⟩ := hs; exact h
  intro n
  induction n with
  | zero => intro c E lf left next slots h1 h2; omega
  | succ n ih =>
    intro c E lf left next slots hc hn hSI hnx hout
    obtain ⟨hFE, hE, hlf, hsl, hlv⟩ := hSI
    rw [f_X4_spreadEntry_10]
    by_cases hcP : P < c
    · simp (disch := omega) only [bd, rdI_n, wrI_n, rdL_n, wrL_n, ix6, ix6', ix7, ix7', ix8, ix8', nI_1, q_lt, if_pos]
      exact ⟨E, lf, left, next, slots, Nat.le_refl _, fun _ _ => rfl, ⟨hFE, hE, hlf, hsl, hlv⟩, fun c' hc' => hnx c' (by omega), hout, rfl⟩
    · -- what a written pointer makes of the row
      have hnxt : ∀ (x : Int32) (E2 : Nat) (lf2 : Nat → Nat), E ≤ E2 → (∀ i, i < E → lf2 i = lf i) → NxOk K P gains (upd next (e * 7 + c) x) lf2 s e k F E2 c → ∀ c', c' < c + 1 → NxOk K P gains (upd next (e * 7 + c) x) lf2 s e k F E2 c' := by
        intro x E2 lf2 h1 h2 h3 c' hc'
        rcases Nat.lt_or_ge c' c with z | z
        · exact NxOk_mono (hnx c' z) h1 h2 (pk_un (by omega))
        · rw [show c' = c by omega]; exact h3
      have hout2 : ∀ x, ∀ y, (y < e * 7 ∨ e * 7 + 7 ≤ y) → upd next (e * 7 + c) x y = next0 y := fun x y hy => by rw [pk_un (by omega)]; exact hout y hy
      -- a child, however found
      have hchild : ∀ (s' : Nat) (σ' : Sv) (γ : Int), s' < 4096 → gRow gains k c = some γ → tk (d4 s) c = some σ' → (∀ q, d4 s' q = σ' q) →
          ∃ E' lf' left' next' slots', E ≤ E' ∧ (∀ i, i < E → lf' i = lf i) ∧ SI S (tt K gains (k + 1)) (k + 1) F E' lf' left' slots' ∧ (∀ c', c' ≤ P → NxOk K P gains next' lf' s e k F E' c') ∧ (∀ x, (x < e * 7 ∨ e * 7 + 7 ≤ x) → next' x = next0 x) ∧
          (f_X4_entryOf N ca co ct fo (nI E) left slots (nI (k + 1)) (nI s')).bind (fun (r11, o12, o13, o14) => f_X4_spreadEntry_89 N (nI P) ca co ct fo gains (f_X4_spreadEntry_10 N (nI P) ca co ct fo gains n) o12 o13 next o14 (nI k) (nI e) (nI s) (nI c) r11) = some (nI E', left', next', slots') := by
        intro s' σ' γ hs' hg ht hd
        have hdig : ∀ q, q < P → d4 (clipS (tq K gains (k + 1)) P s') q = min (σ' q) (tq K gains (k + 1) q) := fun q hq => by
          unfold clipS
          rw [zN_dig hP (show q < 6 by omega), if_pos hq, hd]
        have hnow : ∀ (j E2 : Nat) (lf2 : Nat → Nat), F ≤ j → j < E2 → lf2 j = clipS (tq K gains (k + 1)) P s' → NxOk K P gains (upd next (e * 7 + c) (nI j)) lf2 s e k F E2 c := by
          intro j E2 lf2 h1 h2 h3
          unfold NxOk
          rw [hg]; simp only
          rw [ht]; simp only
          refine ⟨j, h1, h2, pk_us, fun q hq => ?_⟩
          rw [h3, hdig q hq]
          omega
        rcases entryOf_ok (N := N) (gains := gains) (s := s') (show k + 1 ≤ 8 by omega) (show k + 1 ≤ K by omega) hcl hfo hE hFE hs' hlf hsl with ⟨j, j1, j2, j3, j4⟩ | ⟨hnot, hnew⟩
        · rw [j4, bd]
          unfold f_X4_spreadEntry_89
          simp (disch := omega) only [bd, rdI_n, wrI_n, rdL_n, wrL_n, ix6, ix6', ix7, ix7', ix8, ix8', nI_1]
          exact ih (c + 1) E lf left _ slots (by omega) (by omega) ⟨hFE, hE, hlf, hsl, hlv⟩ (hnxt _ E lf (Nat.le_refl _) (fun _ _ => rfl) (hnow j E lf j1 j2 j3)) (hout2 _)
        · have hlf2 : ∀ i, i < E → upN lf E (clipS (tq K gains (k + 1)) P s') i = lf i := fun i hi => if_neg (by omega)
          have hlfE : upN lf E (clipS (tq K gains (k + 1)) P s') E = clipS (tq K gains (k + 1)) P s' := if_pos rfl
          have hlv2 : LvOk S (tt K gains (k + 1)) (k + 1) (upN lf E (clipS (tq K gains (k + 1)) P s')) F (E + 1) := by
            intro i h1 h2
            rcases Nat.lt_or_ge i E with z | z
            · rw [hlf2 i z]
              refine ⟨(hlv i h1 z).1, fun j hij hj => ?_⟩
              rcases Nat.lt_or_ge j E with y | y
              · rw [hlf2 j y]; exact (hlv i h1 z).2 j hij y
              · rw [show j = E by omega, hlfE]; exact hnot i h1 z
            · rw [show i = E by omega, hlfE]
              exact ⟨RS_child hK hP hS0 hk (by omega) hs (by rw [hg]; intro z; cases z) ht hd, fun j hij hj => by omega⟩
          have hE2 : E + 1 ≤ 1056 := hcap _ _ (by omega) hlv2
          rw [hnew (by omega), bd]
          unfold f_X4_spreadEntry_89
          simp (disch := omega) only [bd, rdI_n, wrI_n, rdL_n, wrL_n, ix6, ix6', ix7, ix7', ix8, ix8', nI_1]
          obtain ⟨E', lf', left', next', slots', g1, g2, g3, g4, g5, g6⟩ := ih (c + 1) (E + 1) (upN lf E (clipS (tq K gains (k + 1)) P s')) (upd left E (nI (clipS (tq K gains (k + 1)) P s'))) (upd next (e * 7 + c) (nI E)) (upd slots (clipS (tq K gains (k + 1)) P s') (nI E)) (by omega) (by omega)
            ⟨by omega, hE2, fun i hi => by
                rcases Nat.lt_or_ge i E with z | z
                · rw [hlf2 i z]; exact ⟨(hlf i z).1, by rw [pk_un (by omega)]; exact (hlf i z).2⟩
                · rw [show i = E by omega, hlfE]; exact ⟨clipS_lt _ _ _, pk_us⟩,
              fun i h1 h2 => by
                rcases Nat.lt_or_ge i E with z | z
                · rw [hlf2 i z, pk_un (fun y => hnot i h1 z y)]; exact hsl i h1 z
                · rw [show i = E by omega, hlfE, pk_us], hlv2⟩
            (hnxt _ (E + 1) _ (by omega) hlf2 (hnow E (E + 1) _ hFE (by omega) hlfE)) (hout2 _)
          exact ⟨E', lf', left', next', slots', by omega, fun i hi => by rw [g2 i (by omega), hlf2 i hi], g3, g4, g5, g6⟩
      have hnone : (gRow gains k c = none ∨ (∃ γ, gRow gains k c = some γ ∧ tk (d4 s) c = none)) →
          ∃ E' lf' left' next' slots', E ≤ E' ∧ (∀ i, i < E → lf' i = lf i) ∧ SI S (tt K gains (k + 1)) (k + 1) F E' lf' left' slots' ∧ (∀ c', c' ≤ P → NxOk K P gains next' lf' s e k F E' c') ∧ (∀ x, (x < e * 7 ∨ e * 7 + 7 ≤ x) → next' x = next0 x) ∧
          f_X4_spreadEntry_89 N (nI P) ca co ct fo gains (f_X4_spreadEntry_10 N (nI P) ca co ct fo gains n) (nI E) left next slots (nI k) (nI e) (nI s) (nI c) (-1) = some (nI E', left', next', slots') := by
        intro h
        unfold f_X4_spreadEntry_89
        simp (disch := omega) only [bd, rdI_n, wrI_n, rdL_n, wrL_n, ix6, ix6', ix7, ix7', ix8, ix8', nI_1]
        refine ih (c + 1) E lf left _ slots (by omega) (by omega) ⟨hFE, hE, hlf, hsl, hlv⟩ (hnxt _ E lf (Nat.le_refl _) (fun _ _ => rfl) ?_) (hout2 _)
        unfold NxOk
        rcases h with h | ⟨γ, h, h'⟩
        · rw [h]; exact pk_us
        · rw [h]; simp only
          rw [h']; exact pk_us
      simp (disch := omega) only [bd, rdI_n, wrI_n, rdL_n, wrL_n, ix6, ix6', ix7, ix7', ix8, ix8', nI_1, q_lt, if_neg hcP]
      by_cases hr : gains (k * 7 + c) = RUL
      · rw [if_pos (show gains (k * 7 + c) = -2000000000 from hr)]
        exact hnone (Or.inl (by unfold gRow; rw [if_pos hr]))
      · rw [if_neg (show ¬ gains (k * 7 + c) = -2000000000 from hr)]
        have hg : gRow gains k c = some (gains (k * 7 + c)).toInt := by unfold gRow; rw [if_neg hr]
        cases c with
        | zero =>
          rw [if_pos (show nI 0 = 0 from rfl)]
          exact hchild s (d4 s) _ hs4 hg rfl (fun _ => rfl)
        | succ p =>
          rw [if_neg (nI_ne0 (by omega) (by omega)), two_m2, dig4 (show p < 6 by omega) hs4]
          by_cases h0 : 0 < d4 s p
          · have hd4 := d4_lt s p
            have h4 := p4_6 (q := p) (by omega)
            have hle : 4 ^ p ≤ s := by
              rcases Nat.lt_or_ge s (4 ^ p) with z | z
              · unfold d4 at h0
                rw [Nat.div_eq_of_lt z] at h0
                exact absurd h0 (Nat.lt_irrefl _)
              · exact z
            rw [if_neg (nI_nle h0 (by omega)), sh_one (show p < 6 by omega), pk_sub hle]
            exact hchild (s - 4 ^ p) (dec (d4 s) p) _ (Nat.lt_of_le_of_lt (Nat.sub_le _ _) hs4) hg (by unfold tk; simp only; rw [if_pos h0]) (fun q => d4_take h0)
          · rw [show d4 s p = 0 by omega, if_pos (show nI 0 ≤ 0 from by decide)]
            exact hnone (Or.inr ⟨_, hg, by unfold tk; simp only; rw [if_neg h0]⟩)
end SPREAD
