/-! class Search: what a solved search tells: best, how many, the i-th, the rank -/
section SOLVE
variable {N K P : Nat} {S : Nat → Nat}
/-- entry e stands for level k with seats σ left -/
def Ent (K P : Nat) (gains best ways next : Nat → Int32) : Nat → Nat → Nat → Sv → Prop
  | 0, k, e, σ => e < 1056 ∧ WO (bw P (gF K gains k) σ) (best e) (ways e)
  | m + 1, k, e, σ => e < 1056 ∧ WO (bw P (gF K gains k) σ) (best e) (ways e) ∧ ∀ c, c ≤ P → match gRow gains k c with
    | none => next (e * 7 + c) = -1
    | some _ => match tk σ c with
      | none => next (e * 7 + c) = -1
      | some σ' => ∃ j, next (e * 7 + c) = nI j ∧ Ent K P gains best ways next m (k + 1) j σ'
theorem Ent.lt {gains best ways next : Nat → Int32} {m k e : Nat} {σ : Sv} (h : Ent K P gains best ways next m k e σ) : e < 1056 := by
  cases m with
  | zero => exact h.1
  | succ m => exact h.1
theorem Ent.wo {gains best ways next : Nat → Int32} {m k e : Nat} {σ : Sv} (h : Ent K P gains best ways next m k e σ) : WO (bw P (gF K gains k) σ) (best e) (ways e) := by
  cases m with
  | zero => exact h.2
  | succ m => exact h.2.1
theorem gRow_cong {g g' : Nat → Int32} (h : SameG K P g g') {k c : Nat} (hk : k < K) (hc : c ≤ P) : gRow g k c = gRow g' k c := by
  unfold gRow
  rw [h k c hk hc]
theorem Ent_cong {g g' best ways next : Nat → Int32} (h : SameG K P g g') : ∀ (m k e : Nat) (σ σ' : Sv), K = k + m → (∀ q, q < P → σ q = σ' q) → Ent K P g best ways next m k e σ → Ent K P g' best ways next m k e σ'
  | 0, k, e, σ, σ', hk, hσ, hE => by
    refine ⟨hE.1, ?_⟩
    have e1 : bw P (gF K g k) σ = bw P (gF K g' k) σ' := by
      rw [bw_clip P (gF K g k) σ σ' (fun q hq => by rw [hσ q hq])]
      exact bw_cong P _ _ _ _ _ (fun i o h1 h2 h3 => gRow_cong h (by omega) h3)
    rw [← e1]; exact hE.2
  | m + 1, k, e, σ, σ', hk, hσ, hE => by
    obtain ⟨h1, h2, h3⟩ := hE
    have e1 : bw P (gF K g k) σ = bw P (gF K g' k) σ' := by
      rw [bw_clip P (gF K g k) σ σ' (fun q hq => by rw [hσ q hq])]
      exact bw_cong P _ _ _ _ _ (fun i o h1 h2 h3 => gRow_cong h (by omega) h3)
    refine ⟨h1, by rw [← e1]; exact h2, fun c hc => ?_⟩
    have h3c := h3 c hc
    rw [← gRow_cong h (by omega) hc]
    cases hg : gRow g k c with
    | none => rw [hg] at h3c; exact h3c
    | some γ =>
      rw [hg] at h3c
      simp only at h3c ⊢
      cases c with
      | zero =>
        unfold tk at h3c ⊢
        simp only at h3c ⊢
        obtain ⟨j, j1, j2⟩ := h3c
        exact ⟨j, j1, Ent_cong h m (k + 1) j σ σ' (by omega) hσ j2⟩
      | succ p =>
        unfold tk at h3c ⊢
        simp only at h3c ⊢
        rw [← hσ p (by omega)]
        by_cases h0 : 0 < σ p
        · rw [if_pos h0] at h3c ⊢
          simp only at h3c ⊢
          obtain ⟨j, j1, j2⟩ := h3c
          refine ⟨j, j1, Ent_cong h m (k + 1) j (dec σ p) (dec σ' p) (by omega) (fun q hq => ?_) j2⟩
          unfold dec
          rw [hσ q hq]
        · rw [if_neg h0] at h3c ⊢; exact h3c
/-- of tables that are weighed -/
theorem Ent_of (hK : K ≤ 8) (hP : P ≤ 6) {gains : Nat → Int32} {fst lf : Nat → Nat} {fo left next best ways : Nat → Int32} (hA : AT K P S gains K fst lf fo left next) (hW : WD K P gains lf fst 0 best ways) :
    ∀ (m k e : Nat) (σ : Sv), K = k + m → fst k ≤ e → e < fst (k + 1) → (∀ q, q < P → min (d4 (lf e) q) (tq K gains k q) = min (σ q) (tq K gains k q)) → Ent K P gains best ways next m k e σ := by
  obtain ⟨a0, a1, a2, a3, a4, a5, a6, a7, a8⟩ := hA
  have hmono : ∀ a m, a ≤ m → m ≤ K + 1 → fst a ≤ fst m := fun a m h1 h2 => fst_mono (fun j hj => (a4 j hj).1) m h1 h2
  intro m
  induction m with
  | zero =>
    intro k e σ hk h1 h2 hσ
    have := hmono (k + 1) (K + 1) (by omega) (Nat.le_refl _)
    have hw := hW k e (Nat.zero_le _) (by omega) h1 h2
    rw [bw_clip P (gF K gains k) (d4 (lf e)) σ hσ] at hw
    exact ⟨by omega, hw⟩
  | succ m ih =>
    intro k e σ hk h1 h2 hσ
    have := hmono (k + 1) (K + 1) (by omega) (Nat.le_refl _)
    have hw := hW k e (Nat.zero_le _) (by omega) h1 h2
    rw [bw_clip P (gF K gains k) (d4 (lf e)) σ hσ] at hw
    refine ⟨by omega, hw, fun c hc => ?_⟩
    have hnx := a7 k e (by omega) h1 h2 c hc
    unfold NxOk at hnx
    cases hg : gRow gains k c with
    | none => rw [hg] at hnx; exact hnx
    | some γ =>
      rw [hg] at hnx
      simp only at hnx ⊢
      cases c with
      | zero =>
        unfold tk at hnx ⊢
        simp only at hnx ⊢
        obtain ⟨j, j1, j2, j3, j4⟩ := hnx
        refine ⟨j, j3, ih (k + 1) j σ (by omega) j1 j2 (fun q hq => ?_)⟩
        rw [j4 q hq]
        have := hσ q hq
        have := tq_mono (gains := gains) (q := q) (show k < K by omega)
        omega
      | succ p =>
        have htp : tq K gains k p = tq K gains (k + 1) p + 1 := by
          rw [tq_step (by omega), if_neg (fun z => by unfold gRow at hg; rw [if_pos z] at hg; cases hg)]
        have hσp := hσ p (by omega)
        unfold tk at hnx ⊢
        simp only at hnx ⊢
        by_cases h0 : 0 < σ p
        · rw [if_pos (show 0 < d4 (lf e) p by omega)] at hnx
          rw [if_pos h0]
          simp only at hnx ⊢
          obtain ⟨j, j1, j2, j3, j4⟩ := hnx
          refine ⟨j, j3, ih (k + 1) j (dec σ p) (by omega) j1 j2 (fun q hq => ?_)⟩
          rw [j4 q hq]
          have := hσ q hq
          have := tq_mono (gains := gains) (q := q) (show k < K by omega)
          unfold dec
          by_cases z : q = p
          · rw [if_pos z, if_pos z, z]; omega
          · rw [if_neg z, if_neg z]; omega
        · rw [if_neg (show ¬ 0 < d4 (lf e) p by omega)] at hnx
          rw [if_neg h0]
          exact hnx
/-- a search's own cells: not yet solved, or solved for some board and gains -/
def SV (ca cp sb : Int32) (best next sg ways : Nat → Int32) : Prop := ca = -1 ∨ ∃ K P S g, K ≤ 8 ∧ P ≤ 6 ∧ (∀ q, S q ≤ 3) ∧ GB K P g ∧ ca = nI K ∧ cp = nI P ∧ sb = nI (e4 S P) ∧ SameG K P g sg ∧ Ent K P g best ways next K 0 0 S
theorem solve_ok (hN : 40000 ≤ N) (hK : K ≤ 8) (hP : P ≤ 6) (hS : ∀ q, S q ≤ 3) (hS0 : ∀ q, P ≤ q → S q = 0) {cs gains : Nat → Int32} (e3 : ∀ q, q < 6 → cs q = nI (S q)) (hg : GB K P gains) {ca cp sb : Int32} {best next sg ways : Nat → Int32} (hv : SV ca cp sb best next sg ways) (ce : Int32) (clA clO clT fo left slots : Nat → Int32) :
    ∃ ce' best' clA' clO' clT' fo' left' next' slots' sg' ways', f_X4_solve N (nI K) (nI P) gains cs ca cp sb ce best clA clO clT fo left next slots sg ways =
      some (nI K, nI P, nI (e4 S P), ce', best', clA', clO', clT', fo', left', next', slots', sg', ways') ∧ SameG K P gains sg' ∧ Ent K P gains best' ways' next' K 0 0 S := by
  unfold f_X4_solve
  rcases isSolved_ok hN hK hP hS e3 ca cp sb gains sg with h | ⟨h, e1, e2, h3, h4⟩
  · rw [h, bd, if_pos rfl, X0_seatBits_ok hN hP hS e3, bd]
    obtain ⟨a', o', w', c1, c2⟩ := setClips_ok (N := N) (gains := gains) hK hP hN clA clO clT
    rw [c2, bd]
    obtain ⟨fst, lf, fo', left', next', slots', d1, d2⟩ := spread_ok (N := N) hN hK hP hS hS0 c1 ce fo left next slots
    simp only
    rw [d2, bd]
    simp only
    obtain ⟨b', w2, g1, g2⟩ := weigh_ok (N := N) hN hK hP hg d1 best ways
    rw [g2, bd]
    have hS4 : ∀ q, S q < 4 := fun q => Nat.lt_of_le_of_lt (hS q) (by decide)
    have hA := d1
    obtain ⟨x0, x1, x2, x3, x4, x5, x6, x7, x8⟩ := hA
    refine ⟨_, _, _, _, _, _, _, _, _, _, _, rfl, fun a c ha hc => ?_, Ent_of hK hP d1 g1 K 0 0 S (by omega) (by omega) (by rw [Nat.zero_add, x1]; decide) (fun q hq => by rw [x8, d4_e4 hS4 P q hq])⟩
    have e0 : (0 : Int32).toNatClampNeg = 0 := by decide
    have e56 : (56 : Int32).toNatClampNeg = 56 := by decide
    show gains (a * 7 + c) = va_cpy gains sg (0 : Int32).toNatClampNeg (0 : Int32).toNatClampNeg (56 : Int32).toNatClampNeg (a * 7 + c)
    rw [e0, e56, pk_cpy_in (Nat.zero_le _) (by omega)]
    congr 1
    omega
  · rw [h, bd, if_neg one_ne]
    subst e1; subst e2
    rcases hv with hv | ⟨K', P', S', g, v1, v2, v3, v4, v5, v6, v7, v8, v9⟩
    · exact absurd hv (nI_neg1 (by omega))
    · have hKK : K = K' := nI_inj (by omega) (by omega) v5
      have hPP : P = P' := nI_inj (by omega) (by omega) v6
      subst hKK; subst hPP
      have hS4 : ∀ q, S q < 4 := fun q => Nat.lt_of_le_of_lt (hS q) (by decide)
      have hS4' : ∀ q, S' q < 4 := fun q => Nat.lt_of_le_of_lt (v3 q) (by decide)
      have hlt := e4_lt hS4 P
      have hlt' := e4_lt hS4' P
      have h46 : 4 ^ P ≤ 4 ^ 6 := p4_le hP
      have he : e4 S P = e4 S' P := nI_inj (by omega) (by omega) (by rw [← h3, ← v7])
      refine ⟨ce, best, clA, clO, clT, fo, left, next, slots, sg, ways, by rw [h3], h4, ?_⟩
      refine Ent_cong (fun a c ha hc => by rw [v8 a c ha hc, h4 a c ha hc]) K 0 0 S' S (by omega) (fun q hq => ?_) v9
      rw [← d4_e4 hS4 P q hq, ← d4_e4 hS4' P q hq, he]
theorem SV_of {g best next sg ways : Nat → Int32} (hK : K ≤ 8) (hP : P ≤ 6) (hS : ∀ q, S q ≤ 3) (hg : GB K P g) (h1 : SameG K P g sg) (h2 : Ent K P g best ways next K 0 0 S) : SV (nI K) (nI P) (nI (e4 S P)) best next sg ways :=
  Or.inr ⟨K, P, S, g, hK, hP, hS, hg, rfl, rfl, rfl, h1, h2⟩
/-! what can be asked of it -/
section ASK
variable {gains best ways next sg : Nat → Int32}
theorem bestGain_ok {σ : Sv} {B : Int} {M : Nat} (h : Ent K P gains best ways next K 0 0 σ) (hb : bw P (gF K gains 0) σ = some (B, M)) : f_X4_bestGain N best = some (zI B) := by
  unfold f_X4_bestGain
  have hw := h.wo
  rw [hb] at hw
  rw [show (0 : Int32) = nI 0 from rfl, rdI_n _ (by omega) (by decide), bd, hw.1]
theorem bestGain_none {σ : Sv} (h : Ent K P gains best ways next K 0 0 σ) (hb : bw P (gF K gains 0) σ = none) : f_X4_bestGain N best = some RUL := by
  unfold f_X4_bestGain
  have hw := h.wo
  rw [hb] at hw
  rw [show (0 : Int32) = nI 0 from rfl, rdI_n _ (by omega) (by decide), bd, hw.1]
theorem howMany_ok {σ : Sv} {B : Int} {M : Nat} (h : Ent K P gains best ways next K 0 0 σ) (hb : bw P (gF K gains 0) σ = some (B, M)) : f_X4_howMany N ways = some (nI M) := by
  unfold f_X4_howMany
  have hw := h.wo
  rw [hb] at hw
  rw [show (0 : Int32) = nI 0 from rfl, rdI_n _ (by omega) (by decide), bd, hw.2]
theorem waysBy_ok (hK : K ≤ 8) (hP : P ≤ 6) (hg : GB K P gains) (hsg : SameG K P gains sg) {m k e : Nat} {σ : Sv} (hk : K = k + (m + 1)) (h : Ent K P gains best ways next (m + 1) k e σ) {B : Int} {M : Nat} (hb : bw P (gF K gains k) σ = some (B, M)) {c : Nat} (hc : c ≤ P) :
    f_X4_waysBy N best next sg ways (nI k) (nI e) (nI c) = some (nI (wt (cv P (gRow gains k) (gF K gains (k + 1)) σ) B c)) := by
  obtain ⟨h1, h2, h3⟩ := h
  have h3 := h3 c hc
  rw [hb] at h2
  have hbB := bw_bound hP hg (m + 1) k σ B M hk hb
  unfold f_X4_waysBy
  cases hgr : gRow gains k c with
  | none =>
    rw [hgr] at h3
    rw [childOf_none h1 (by omega) h3, bd, if_pos rfl]
    unfold wt cv
    rw [hgr]; rfl
  | some γ =>
    rw [hgr] at h3
    simp only at h3
    cases ht : tk σ c with
    | none =>
      rw [ht] at h3
      rw [childOf_none h1 (by omega) h3, bd, if_pos rfl]
      unfold wt cv
      rw [hgr]; simp only; rw [ht]; rfl
    | some σ' =>
      rw [ht] at h3
      simp only at h3
      obtain ⟨j, j1, j2⟩ := h3
      have hj := j2.lt
      have hw := j2.wo
      rw [childOf_some h1 (by omega) j1 hj, bd, if_neg (nI_neg1 (by omega)), rdI_n _ hj (by decide), bd]
      cases hb' : bw P (gF K gains (k + 1)) σ' with
      | none =>
        rw [hb'] at hw
        rw [hw.2, if_pos rfl]
        unfold wt cv
        rw [hgr]; simp only; rw [ht]; simp only; rw [hb']; rfl
      | some q =>
        obtain ⟨qb, qm⟩ := q
        rw [hb'] at hw
        have hpos := bw_pos P _ _ _ _ hb'
        have hbq := bw_bound hP hg m (k + 1) σ' qb qm (by omega) hb'
        have h7 := p7 (m := m) (by omega)
        have hγ : gains (k * 7 + c) = zI γ ∧ -16777216 ≤ γ ∧ γ ≤ 16777216 := by
          unfold gRow at hgr
          split at hgr
          · cases hgr
          · rename_i hne
            cases hgr
            rcases hg k c (by omega) hc with z | z
            · exact absurd z hne
            · exact ⟨(zI_of _).symm, z⟩
        have hcv : cv P (gRow gains k) (gF K gains (k + 1)) σ c = some (γ + qb, qm) := cv_mk hgr ht hb'
        rw [hw.2, if_neg (nI_ne0 hpos (by omega)), ix7, rdI_n _ (by omega) (by decide), bd, rdI_n _ hj (by decide), bd, rdI_n _ h1 (by decide), bd, ← hsg k c (by omega) hc, hγ.1, hw.1, h2.1, zI_add]
        unfold wt
        rw [hcv]
        simp only
        by_cases e0 : γ + qb = B
        · rw [if_pos (by rw [e0]), bd, if_pos e0]
        · rw [if_neg (fun z => e0 ((zI_eq ⟨by omega, by omega⟩ ⟨by omega, by omega⟩).mp z)), if_neg e0]; rfl
theorem pathTo_37_ok (hK : K ≤ 8) (hP : P ≤ 6) (hg : GB K P gains) (hsg : SameG K P gains sg) {m k e : Nat} {σ : Sv} (hk : K = k + (m + 1)) (h : Ent K P gains best ways next (m + 1) k e σ) {B : Int} {M : Nat} (hb : bw P (gF K gains k) σ = some (B, M)) (k8 : (Nat → Int32) → Int32 → Int32 → Int32 → Option (Nat → Int32)) {row : Nat → Int32} :
    ∀ (n c i : Nat), c ≤ P → P - c < n → i < 5764801 → f_X4_pathTo_37 N (nI K) (nI P) best next sg ways k8 n row (nI e) (nI i) (nI k) (nI c) (nI (wt (cv P (gRow gains k) (gF K gains (k + 1)) σ) B c)) =
      f_X4_pathTo_77 N (nI K) (nI P) best next sg ways k8 row (nI e) (nI (sl (wt (cv P (gRow gains k) (gF K gains (k + 1)) σ) B) (P - c) c i).2) (nI k) (nI (sl (wt (cv P (gRow gains k) (gF K gains (k + 1)) σ) B) (P - c) c i).1) := by
  intro n
  induction n with
  | zero => intro c i h1 h2; omega
  | succ n ih =>
    intro c i hc hn hi
    rw [f_X4_pathTo_37]
    by_cases hcP : P ≤ c
    · have : c = P := by omega
      subst this
      rw [if_pos (nI_le (Nat.le_refl _) (by omega)), Nat.sub_self]
      rfl
    · have hwl : wt (cv P (gRow gains k) (gF K gains (k + 1)) σ) B c < 2 ^ 31 := by
        unfold wt
        cases hcv : cv P (gRow gains k) (gF K gains (k + 1)) σ c with
        | none => exact Nat.two_pow_pos _
        | some q =>
          obtain ⟨γ, σ', b, c1, c2, c3, c4⟩ := cv_some hcv
          have := (bw_bound hP hg m (k + 1) σ' b q.2 (by omega) c3).2.2
          have := p7 (m := m) (by omega)
          simp only
          split <;> omega
      have hwb := waysBy_ok (N := N) hK hP hg hsg hk h hb (c := c + 1) (by omega)
      rw [if_neg (nI_ge (by omega) (by omega)), show P - c = P - (c + 1) + 1 by omega, sl]
      by_cases hlt : i < wt (cv P (gRow gains k) (gF K gains (k + 1)) σ) B c
      · rw [if_pos (nI_lt hlt hwl), if_pos hlt]
      · rw [if_neg (nI_nlt (by omega) (by omega)), if_neg hlt, nI_1, hwb, bd, pk_sub (by omega)]
        exact ih (c + 1) _ (by omega) (by omega) (by omega)
theorem pathTo_8_ok (hN : 40000 ≤ N) (hK : K ≤ 8) (hP : P ≤ 6) (hg : GB K P gains) (hsg : SameG K P gains sg) :
    ∀ (m n k e i : Nat) (σ : Sv) (row : Nat → Int32) (B : Int) (M : Nat), K = k + m → m < n → Ent K P gains best ways next m k e σ → bw P (gF K gains k) σ = some (B, M) → i < M →
      ∃ row', f_X4_pathTo_8 N (nI K) (nI P) best next sg ways n row (nI e) (nI i) (nI k) = some row' ∧ (∀ a, a < k → row' a = row a) ∧ ∀ j, j < m → row' (k + j) = oI ((nth P (gF K gains k) σ i).getD j 0) := by
  intro m
  induction m with
  | zero =>
    intro n k e i σ row B M hk hn h hb hi
    obtain ⟨n, rfl⟩ : ∃ n', n = n' + 1 := ⟨n - 1, by omega⟩
    rw [f_X4_pathTo_8, if_pos (nI_le (by omega) (by omega))]
    exact ⟨row, rfl, fun _ _ => rfl, fun j hj => absurd hj (Nat.not_lt_zero _)⟩
  | succ m ih =>
    intro n k e i σ row B M hk hn h hb hi
    obtain ⟨n, rfl⟩ : ∃ n', n = n' + 1 := ⟨n - 1, by omega⟩
    have hM := (bw_bound hP hg (m + 1) k σ B M hk hb).2.2
    have h7 := p7 (m := m + 1) (by omega)
    have hbc := hb
    rw [gF_cons (by omega), bw_cons] at hbc
    obtain ⟨f1, f2, f3⟩ := fo_some hbc
    obtain ⟨-, s2, s3, -⟩ := sl_spec (wt (cv P (gRow gains k) (gF K gains (k + 1)) σ) B) P 0 i (by rw [show 0 + P + 1 = P + 1 from by omega, ← f3]; show 0 + i < M; omega)
    rw [f_X4_pathTo_8, if_neg (nI_ge (by omega) (by omega)), if_neg (show ¬ (8 : Int32) ≤ nI k from nI_ge (b := 8) (by omega) (by decide)), show (0 : Int32) = nI 0 from rfl, waysBy_ok hK hP hg hsg hk h hb (Nat.zero_le _), bd,
      pathTo_37_ok hK hP hg hsg hk h hb _ N 0 i (Nat.zero_le _) (by omega) (by omega)]
    have hnth : nth P (gF K gains k) σ i = (sl (wt (cv P (gRow gains k) (gF K gains (k + 1)) σ) B) P 0 i).1 :: (match tk σ (sl (wt (cv P (gRow gains k) (gF K gains (k + 1)) σ) B) P 0 i).1 with
      | none => []
      | some σ' => nth P (gF K gains (k + 1)) σ' (sl (wt (cv P (gRow gains k) (gF K gains (k + 1)) σ) B) P 0 i).2) := by
      have e := hb
      rw [gF_cons (by omega)] at e
      rw [gF_cons (by omega), nth, e]
      rfl
    rw [hnth]
    rw [Nat.sub_zero]
    generalize sl (wt (cv P (gRow gains k) (gF K gains (k + 1)) σ) B) P 0 i = z at s2 s3 ⊢
    obtain ⟨o, i'⟩ := z
    simp only at s2 s3 ⊢
    cases hc : cv P (gRow gains k) (gF K gains (k + 1)) σ o with
    | none => unfold wt at s3; rw [hc] at s3; exact absurd s3 (Nat.not_lt_zero _)
    | some c =>
      unfold wt at s3
      rw [hc] at s3
      simp only at s3
      by_cases hcb : c.1 = B
      · rw [if_pos hcb] at s3
        obtain ⟨γ, σ', b, c1, c2, c3, c4⟩ := cv_some hc
        obtain ⟨h1, h2, h3⟩ := h
        have h3 := h3 o (by omega)
        rw [c1] at h3
        simp only at h3
        rw [c2] at h3
        simp only at h3
        obtain ⟨j, j1, j2⟩ := h3
        unfold f_X4_pathTo_77
        rw [wrI_n _ _ (by omega) (by decide), bd, childOf_some h1 (by omega) j1 j2.lt, bd, nI_1, c2]
        obtain ⟨row', r1, r2, r3⟩ := ih n (k + 1) j i' σ' (upd row k (nI o - 1)) b c.2 (by omega) (by omega) j2 c3 s3
        refine ⟨row', r1, fun a ha => by rw [r2 a (by omega), pk_un (by omega)], fun x hx => ?_⟩
        cases x with
        | zero =>
          rw [Nat.add_zero, r2 k (by omega), pk_us]
          rfl
        | succ x =>
          rw [show k + (x + 1) = k + 1 + x by omega, r3 x (by omega)]
          rfl
      · rw [if_neg hcb] at s3; exact absurd s3 (Nat.not_lt_zero _)
/-- the i-th of the best, as a row -/
def nthT (P : Nat) (t : List Row) (σ : Sv) (i : Nat) : Nat → Nat := fun a => (nth P t σ i).getD a 0
theorem pathTo_ok (hN : 40000 ≤ N) (hK : K ≤ 8) (hP : P ≤ 6) (hg : GB K P gains) (hsg : SameG K P gains sg) {σ : Sv} {B : Int} {M i : Nat} (h : Ent K P gains best ways next K 0 0 σ) (hb : bw P (gF K gains 0) σ = some (B, M)) (hi : i < M) (row : Nat → Int32) :
    ∃ row', f_X4_pathTo N (nI K) (nI P) best next sg ways row (nI i) = some row' ∧ RowIs K (nthT P (gF K gains 0) σ i) row' := by
  obtain ⟨row', r1, r2, r3⟩ := pathTo_8_ok (N := N) hN hK hP hg hsg K N 0 0 i σ row B M (by omega) (by omega) h hb hi
  refine ⟨row', r1, fun a ha => ?_⟩
  have := r3 a ha
  rw [Nat.zero_add] at this
  exact this
end ASK
end SOLVE
