/-! class Search: weigh: the best sum and how many reach it, entry by entry -/
section WEIGH
variable {N K P : Nat} {S : Nat → Nat} {gains : Nat → Int32}
/-- gains are ruled out or small -/
def GB (K P : Nat) (gains : Nat → Int32) : Prop := ∀ a c, a < K → c ≤ P → gains (a * 7 + c) = RUL ∨ (-16777216 ≤ (gains (a * 7 + c)).toInt ∧ (gains (a * 7 + c)).toInt ≤ 16777216)
theorem bw_bound (hP : P ≤ 6) (hg : GB K P gains) : ∀ (m k : Nat) (σ : Sv) (B : Int) (M : Nat), K = k + m → bw P (gF K gains k) σ = some (B, M) → -(m * 16777216 : Int) ≤ B ∧ B ≤ m * 16777216 ∧ M ≤ 7 ^ m
  | 0, k, σ, B, M, hk, h => by
    have : k = K := by omega
    subst this
    rw [gF_nil] at h
    cases h
    exact ⟨by decide, by decide, by decide⟩
  | m + 1, k, σ, B, M, hk, h => by
    rw [gF_cons (by omega), bw_cons] at h
    obtain ⟨h1, ⟨o, ho, m', hm'⟩, h3⟩ := fo_some h
    have key : ∀ o c, o < P + 1 → cv P (gRow gains k) (gF K gains (k + 1)) σ o = some c → -((m + 1 : Nat) * 16777216 : Int) ≤ c.1 ∧ c.1 ≤ (m + 1 : Nat) * 16777216 ∧ c.2 ≤ 7 ^ m := by
      intro o c ho hc
      obtain ⟨γ, σ', b, c1, c2, c3, c4⟩ := cv_some hc
      have ih := bw_bound hP hg m (k + 1) σ' b c.2 (by omega) c3
      have hγ : -16777216 ≤ γ ∧ γ ≤ 16777216 := by
        unfold gRow at c1
        rcases hg k o (by omega) (by omega) with z | z
        · rw [if_pos z] at c1; cases c1
        · split at c1
          · cases c1
          · cases c1; exact z
      have e1 : ((m + 1 : Nat) : Int) * 16777216 = (m : Int) * 16777216 + 16777216 := by omega
      rw [e1, c4]
      omega
    have k1 := key o _ ho hm'
    refine ⟨k1.1, k1.2.1, ?_⟩
    rw [h3]
    refine Nat.le_trans (fb_sm_bound (c := 7 ^ m) (fun o ho => ?_)) ?_
    · unfold wt
      cases hc : cv P (gRow gains k) (gF K gains (k + 1)) σ o with
      | none => exact Nat.zero_le _
      | some c =>
        simp only
        split
        · exact (key o c ho hc).2.2
        · exact Nat.zero_le _
    · rw [Nat.pow_succ, Nat.mul_comm]
      exact Nat.mul_le_mul_left _ (by omega)
theorem p7 {m : Nat} (h : m ≤ 8) : 7 ^ m ≤ 5764801 := (Nat.pow_le_pow_right (by decide) h : 7 ^ m ≤ 7 ^ 8)
def WO (x : Bw) (b w : Int32) : Prop := match x with
  | none => b = RUL ∧ w = 0
  | some q => b = zI q.1 ∧ w = nI q.2
theorem childOf_none {next : Nat → Int32} {e c : Nat} (he : e < 1056) (hc : c ≤ 6) (h : next (e * 7 + c) = -1) : f_X4_childOf N next (nI e) (nI c) = some (-1) := by
  unfold f_X4_childOf
  rw [if_neg (nI_pos (by omega)), if_neg (show ¬ (1056 : Int32) ≤ nI e from nI_ge (b := 1056) he (by decide)), if_neg (nI_pos (by omega)), if_pos (show nI c < 7 from nI_lt (b := 7) (by omega) (by decide)), ix7, rdI_n _ (by omega) (by decide), bd, h, if_pos (by decide)]
theorem childOf_some {next : Nat → Int32} {e c j : Nat} (he : e < 1056) (hc : c ≤ 6) (h : next (e * 7 + c) = nI j) (hj : j < 1056) : f_X4_childOf N next (nI e) (nI c) = some (nI j) := by
  unfold f_X4_childOf
  rw [if_neg (nI_pos (by omega)), if_neg (show ¬ (1056 : Int32) ≤ nI e from nI_ge (b := 1056) he (by decide)), if_neg (nI_pos (by omega)), if_pos (show nI c < 7 from nI_lt (b := 7) (by omega) (by decide)), ix7, rdI_n _ (by omega) (by decide), bd, h, if_neg (nI_pos (by omega)), if_neg (show ¬ (1056 : Int32) ≤ nI j from nI_ge (b := 1056) hj (by decide))]
/-- what a child tells of a choice -/
def ChOk (K P : Nat) (gains next best ways : Nat → Int32) (k e : Nat) (σ : Sv) (c : Nat) : Prop := match gRow gains k c with
  | none => next (e * 7 + c) = -1
  | some _ => match tk σ c with
    | none => next (e * 7 + c) = -1
    | some σ' => ∃ j, j < 1056 ∧ next (e * 7 + c) = nI j ∧ WO (bw P (gF K gains (k + 1)) σ') (best j) (ways j)
theorem weighEntry_9_ok (hK : K ≤ 8) (hP : P ≤ 6) (hg : GB K P gains) {k e : Nat} (hk : k < K) (he : e < 1056) {next best ways : Nat → Int32} {σ : Sv} (hch : ∀ c, c ≤ P → ChOk K P gains next best ways k e σ c) :
    ∀ (n c : Nat) (top many : Int32), c ≤ P + 1 → P + 1 - c < n → WO (fo (cv P (gRow gains k) (gF K gains (k + 1)) σ) c) top many →
      ∃ b w, WO (bw P (gF K gains k) σ) b w ∧ f_X4_weighEntry_9 N (nI P) gains next n best ways (nI k) (nI e) top many (nI c) = some (upd best e b, upd ways e w) := by
  have hsub : ∀ c q, c ≤ P + 1 → fo (cv P (gRow gains k) (gF K gains (k + 1)) σ) c = some q → b31 q.1 ∧ 0 < q.2 ∧ (q.2 : Int) < 2147483648 := by
    intro c q hc hq
    obtain ⟨qb, qm⟩ := q
    obtain ⟨h1, ⟨o, ho, m', hm'⟩, h3⟩ := fo_some hq
    have key : ∀ o' c', o' < P + 1 → cv P (gRow gains k) (gF K gains (k + 1)) σ o' = some c' → -(8 * 16777216 : Int) ≤ c'.1 ∧ c'.1 ≤ 8 * 16777216 ∧ c'.2 ≤ 5764801 ∧ 0 < c'.2 := by
      intro o' c' ho' hc'
      obtain ⟨γ, σ', b, c1, c2, c3, c4⟩ := cv_some hc'
      have ih := bw_bound hP hg (K - (k + 1)) (k + 1) σ' b c'.2 (by omega) c3
      have hpos := bw_pos P _ _ _ _ c3
      have hγ : -16777216 ≤ γ ∧ γ ≤ 16777216 := by
        unfold gRow at c1
        rcases hg k o' (by omega) (by omega) with z | z
        · rw [if_pos z] at c1; cases c1
        · split at c1
          · cases c1
          · cases c1; exact z
      have := p7 (m := K - (k + 1)) (by omega)
      rw [c4]
      omega
    have k1 := key o _ (by omega) hm'
    simp only at k1
    refine ⟨⟨by simp only; omega, by simp only; omega⟩, ?_, ?_⟩
    · simp only
      rw [h3]
      have hw : wt (cv P (gRow gains k) (gF K gains (k + 1)) σ) qb o = m' := by unfold wt; rw [hm']; simp
      have := fb_sm_part (wt (cv P (gRow gains k) (gF K gains (k + 1)) σ) qb) ho
      omega
    · simp only
      rw [h3]
      have : fb_sm (wt (cv P (gRow gains k) (gF K gains (k + 1)) σ) qb) c ≤ c * 5764801 := fb_sm_bound (fun o ho => by
        unfold wt
        cases hc' : cv P (gRow gains k) (gF K gains (k + 1)) σ o with
        | none => exact Nat.zero_le _
        | some c' =>
          simp only
          split
          · exact (key o c' (by omega) hc').2.2.1
          · exact Nat.zero_le _)
      omega
  intro n
  induction n with
  | zero => intro c top many h1 h2; omega
  | succ n ih =>
    intro c top many hc hn hx
    rw [f_X4_weighEntry_9]
    by_cases hcP : P < c
    · have : c = P + 1 := by omega
      subst this
      simp (disch := omega) only [bd, rdI_n, wrI_n, rdL_n, wrL_n, ix6, ix6', ix7, ix7', ix8, ix8', nI_1, q_lt, if_pos]
      exact ⟨top, many, by rw [gF_cons hk, bw_cons]; exact hx, rfl⟩
    · rw [if_neg (nI_nlt (by omega) (by omega))]
      have hfo : fo (cv P (gRow gains k) (gF K gains (k + 1)) σ) (c + 1) = cmb (fo (cv P (gRow gains k) (gF K gains (k + 1)) σ) c) (cv P (gRow gains k) (gF K gains (k + 1)) σ c) := rfl
      have hcc := hch c (by omega)
      unfold ChOk at hcc
      -- nothing by this choice
      have hskip : cv P (gRow gains k) (gF K gains (k + 1)) σ c = none → ∃ b w, WO (bw P (gF K gains k) σ) b w ∧ f_X4_weighEntry_9 N (nI P) gains next n best ways (nI k) (nI e) top many (nI (c + 1)) = some (upd best e b, upd ways e w) :=
        fun h => ih (c + 1) top many (by omega) (by omega) (by rw [hfo, h, cmb_none2]; exact hx)
      cases hgr : gRow gains k c with
      | none =>
        rw [hgr] at hcc
        rw [childOf_none he (by omega) hcc, bd, if_pos rfl, nI_1]
        exact hskip (by unfold cv; rw [hgr])
      | some γ =>
        rw [hgr] at hcc
        simp only at hcc
        cases ht : tk σ c with
        | none =>
          rw [ht] at hcc
          rw [childOf_none he (by omega) hcc, bd, if_pos rfl, nI_1]
          exact hskip (by unfold cv; rw [hgr]; simp only; rw [ht])
        | some σ' =>
          rw [ht] at hcc
          simp only at hcc
          obtain ⟨j, hj, hnx, hwo⟩ := hcc
          rw [childOf_some he (by omega) hnx hj, bd, if_neg (nI_neg1 (by omega)), rdI_n _ hj (by decide), bd]
          cases hb : bw P (gF K gains (k + 1)) σ' with
          | none =>
            rw [hb] at hwo
            rw [hwo.2, if_pos (by decide), nI_1]
            exact hskip (by unfold cv; rw [hgr]; simp only; rw [ht]; simp only; rw [hb]; rfl)
          | some q =>
            obtain ⟨qb, qm⟩ := q
            rw [hb] at hwo
            obtain ⟨w1, w2⟩ := hwo
            simp only at w1 w2
            have hqm := bw_pos P _ _ _ _ hb
            have hbd := bw_bound hP hg (K - (k + 1)) (k + 1) σ' qb qm (by omega) hb
            have h7 := p7 (m := K - (k + 1)) (by omega)
            have hγ : gains (k * 7 + c) = zI γ ∧ -16777216 ≤ γ ∧ γ ≤ 16777216 := by
              unfold gRow at hgr
              split at hgr
              · cases hgr
              · rename_i hne
                cases hgr
                rcases hg k c hk (by omega) with z | z
                · exact absurd z hne
                · exact ⟨(zI_of _).symm, z⟩
            have hcv : cv P (gRow gains k) (gF K gains (k + 1)) σ c = some (γ + qb, qm) := cv_mk hgr ht hb
            have hgb : b31 (γ + qb) := ⟨by omega, by omega⟩
            have hrec : ∀ top' many', WO (cmb (fo (cv P (gRow gains k) (gF K gains (k + 1)) σ) c) (some (γ + qb, qm))) top' many' → ∃ b w, WO (bw P (gF K gains k) σ) b w ∧ f_X4_weighEntry_9 N (nI P) gains next n best ways (nI k) (nI e) top' many' (nI (c + 1)) = some (upd best e b, upd ways e w) :=
              fun top' many' h => ih (c + 1) top' many' (by omega) (by omega) (by rw [hfo, hcv]; exact h)
            rw [w2, if_neg (nI_nle hqm (by omega)), ix7, rdI_n _ (by omega) (by decide), bd, rdI_n _ hj (by decide), bd, w1, hγ.1, zI_add]
            unfold f_X4_weighEntry_76
            cases hf : fo (cv P (gRow gains k) (gF K gains (k + 1)) σ) c with
            | none =>
              rw [hf] at hx hrec
              rw [hx.2, if_pos rfl, rdI_n _ hj (by decide), bd, w2, nI_1]
              exact hrec _ _ ⟨rfl, rfl⟩
            | some x =>
              obtain ⟨xb, xm⟩ := x
              rw [hf] at hx hrec
              obtain ⟨x1, x2⟩ := hx
              simp only at x1 x2
              have hxs := hsub c _ (by omega) hf
              obtain ⟨y1, y2, y3⟩ := hxs
              simp only at y1 y2 y3
              rw [x2, x1, if_neg (nI_ne0 y2 (by omega))]
              unfold cmb at hrec
              simp only at hrec
              by_cases h1 : xb < γ + qb
              · rw [if_pos h1] at hrec
                rw [if_neg (fun z => by have := (zI_le hgb y1).mp z; omega), rdI_n _ hj (by decide), bd, w2, nI_1]
                exact hrec _ _ ⟨rfl, rfl⟩
              · rw [if_neg h1] at hrec
                rw [if_pos ((zI_le hgb y1).mpr (by omega))]
                by_cases h2 : xb = γ + qb
                · rw [if_pos h2] at hrec
                  rw [if_pos ((zI_eq hgb y1).mpr h2.symm), bd, nI_add, nI_1]
                  exact hrec _ _ ⟨rfl, rfl⟩
                · rw [if_neg h2] at hrec
                  rw [if_neg (fun z => h2 ((zI_eq hgb y1).mp z).symm), nI_1]
                  exact hrec _ _ ⟨rfl, rfl⟩
theorem weighEntry_ok (hN : 40000 ≤ N) (hK : K ≤ 8) (hP : P ≤ 6) (hg : GB K P gains) {k e : Nat} (hk : k < K) (he : e < 1056) {next best ways : Nat → Int32} {σ : Sv} (hch : ∀ c, c ≤ P → ChOk K P gains next best ways k e σ c) :
    ∃ b w, WO (bw P (gF K gains k) σ) b w ∧ f_X4_weighEntry N (nI P) gains next best ways (nI k) (nI e) = some (upd best e b, upd ways e w) :=
  weighEntry_9_ok hK hP hg hk he hch N 0 RUL 0 (Nat.zero_le _) (by omega) ⟨rfl, rfl⟩
/-- entries of levels from k on are weighed -/
def WD (K P : Nat) (gains : Nat → Int32) (lf fst : Nat → Nat) (k : Nat) (best ways : Nat → Int32) : Prop := ∀ j i, k ≤ j → j ≤ K → fst j ≤ i → i < fst (j + 1) → WO (bw P (gF K gains j) (d4 (lf i))) (best i) (ways i)
theorem weigh_56_ok (hN : 40000 ≤ N) (hK : K ≤ 8) (hP : P ≤ 6) (hg : GB K P gains) {fst lf : Nat → Nat} {fo left next : Nat → Int32} (hA : AT K P S gains K fst lf fo left next) {ce : Int32} {k : Nat} (hk : k < K)
    (k45 : (Nat → Int32) → (Nat → Int32) → Int32 → Option ((Nat → Int32) × (Nat → Int32))) :
    ∀ (n e : Nat) (best ways : Nat → Int32), fst k ≤ e → e ≤ fst (k + 1) → fst (k + 1) - e < n → WD K P gains lf fst (k + 1) best ways → (∀ i, fst k ≤ i → i < e → WO (bw P (gF K gains k) (d4 (lf i))) (best i) (ways i)) →
      ∃ best' ways', WD K P gains lf fst k best' ways' ∧ f_X4_weigh_56 N (nI K) (nI P) ce fo gains next k45 n best ways (nI k) (nI e) = k45 best' ways' (nI k - 1) := by
  obtain ⟨a0, a1, a2, a3, a4, a5, a6, a7, a8⟩ := hA
  have hmono : ∀ a m, a ≤ m → m ≤ K + 1 → fst a ≤ fst m := fun a m h1 h2 => fst_mono (fun j hj => (a4 j hj).1) m h1 h2
  intro n
  induction n with
  | zero => intro e best ways h0 h1 h2; omega
  | succ n ih =>
    intro e best ways h0 h1 h2 hwd hlow
    have hcap : fst (k + 1) ≤ 1056 := Nat.le_trans (hmono (k + 1) (K + 1) (by omega) (Nat.le_refl _)) a2
    rw [f_X4_weigh_56]
    by_cases h : fst (k + 1) ≤ e
    · simp (disch := omega) only [bd, rdI_n, wrI_n, rdL_n, wrL_n, ix6, ix6', ix7, ix7', ix8, ix8', nI_1, a3 (k + 1) (by omega), q_le, if_pos h]
      have em : nI k + (-1) = nI k - 1 := by
        cases k with
        | zero => decide
        | succ i => rw [pk_m1, nI_pred]
      rw [em]
      refine ⟨best, ways, fun j i j1 j2 i1 i2 => ?_, rfl⟩
      rcases Nat.eq_or_lt_of_le j1 with z | z
      · subst z; exact hlow i i1 (by omega)
      · exact hwd j i z j2 i1 i2
    · simp (disch := omega) only [bd, rdI_n, wrI_n, rdL_n, wrL_n, ix6, ix6', ix7, ix7', ix8, ix8', nI_1, a3 (k + 1) (by omega), q_le, if_neg h]
      have hch : ∀ c, c ≤ P → ChOk K P gains next best ways k e (d4 (lf e)) c := by
        intro c hc
        have hnx := a7 k e hk h0 (by omega) c hc
        unfold NxOk at hnx
        unfold ChOk
        cases hgr : gRow gains k c with
        | none => rw [hgr] at hnx; exact hnx
        | some γ =>
          rw [hgr] at hnx
          simp only at hnx ⊢
          cases ht : tk (d4 (lf e)) c with
          | none => rw [ht] at hnx; exact hnx
          | some σ' =>
            rw [ht] at hnx
            simp only at hnx ⊢
            obtain ⟨j, j1, j2, j3, j4⟩ := hnx
            have hcap2 : fst (k + 2) ≤ 1056 := Nat.le_trans (hmono (k + 2) (K + 1) (by omega) (Nat.le_refl _)) a2
            refine ⟨j, by omega, j3, ?_⟩
            have := hwd (k + 1) j (Nat.le_refl _) (by omega) j1 j2
            rw [bw_clip P (gF K gains (k + 1)) (d4 (lf j)) σ' j4] at this
            exact this
      obtain ⟨b, w, g1, g2⟩ := weighEntry_ok hN hK hP hg hk (show e < 1056 by omega) hch
      rw [g2, bd]
      refine ih (e + 1) _ _ (by omega) (by omega) (by omega) (fun j i j1 j2 i1 i2 => ?_) (fun i i1 i2 => ?_)
      · have : fst (k + 1) ≤ fst j := hmono (k + 1) j j1 (by omega)
        show WO _ (upd best e b i) (upd ways e w i)
        rw [pk_un (by omega), pk_un (by omega)]
        exact hwd j i j1 j2 i1 i2
      · show WO _ (upd best e b i) (upd ways e w i)
        by_cases z : i = e
        · subst z; rw [pk_us, pk_us]; exact g1
        · rw [pk_un z, pk_un z]; exact hlow i i1 (by omega)
theorem weigh_45_ok (hN : 40000 ≤ N) (hK : K ≤ 8) (hP : P ≤ 6) (hg : GB K P gains) {fst lf : Nat → Nat} {fo left next : Nat → Int32} (hA : AT K P S gains K fst lf fo left next) {ce : Int32} :
    ∀ (n k : Nat) (best ways : Nat → Int32), k ≤ K → k < n → WD K P gains lf fst k best ways →
      ∃ best' ways', WD K P gains lf fst 0 best' ways' ∧ f_X4_weigh_45 N (nI K) (nI P) ce fo gains next n best ways (nI k - 1) = some (best', ways') := by
  have hA0 := hA
  obtain ⟨a0, a1, a2, a3, a4, a5, a6, a7, a8⟩ := hA
  intro n
  induction n with
  | zero => intro k best ways h0 h1; omega
  | succ n ih =>
    intro k best ways hk hn hwd
    rw [f_X4_weigh_45]
    cases k with
    | zero =>
      rw [if_pos (show nI 0 - 1 < 0 from by decide)]
      exact ⟨best, ways, hwd, rfl⟩
    | succ k =>
      rw [nI_pred, if_neg (nI_pos (by omega)), rdI_n _ (by omega) (by decide), bd, a3 k (by omega)]
      have hf : fst (k + 1) ≤ 1056 := Nat.le_trans (fst_mono (fun j hj => (a4 j hj).1) (a := k + 1) (K + 1) (by omega) (Nat.le_refl _)) a2
      obtain ⟨b', w', g1, g2⟩ := weigh_56_ok (N := N) (ce := ce) hN hK hP hg hA0 (show k < K by omega) (f_X4_weigh_45 N (nI K) (nI P) ce fo gains next n) N (fst k) best ways (Nat.le_refl _) (a4 k (by omega)).1 (by omega) hwd (fun i h1 h2 => by omega)
      rw [g2]
      exact ih k b' w' (by omega) (by omega) g1
theorem weigh_10_ok (hN : 40000 ≤ N) (hK : K ≤ 8) (hP : P ≤ 6) (hg : GB K P gains) {fst lf : Nat → Nat} {fo left next : Nat → Int32} (hA : AT K P S gains K fst lf fo left next) :
    ∀ (n e : Nat) (best ways : Nat → Int32), fst K ≤ e → e ≤ fst (K + 1) → fst (K + 1) - e < n → (∀ i, fst K ≤ i → i < e → best i = 0 ∧ ways i = 1) →
      ∃ best' ways', WD K P gains lf fst 0 best' ways' ∧ f_X4_weigh_10 N (nI K) (nI P) (nI (fst (K + 1))) fo gains next n best ways (nI e) = some (best', ways') := by
  have hA0 := hA
  obtain ⟨a0, a1, a2, a3, a4, a5, a6, a7, a8⟩ := hA
  intro n
  induction n with
  | zero => intro e best ways h0 h1 h2; omega
  | succ n ih =>
    intro e best ways h0 h1 h2 hlow
    rw [f_X4_weigh_10]
    by_cases h : fst (K + 1) ≤ e
    · simp (disch := omega) only [bd, rdI_n, wrI_n, rdL_n, wrL_n, ix6, ix6', ix7, ix7', ix8, ix8', nI_1, q_le, if_pos h]
      refine weigh_45_ok hN hK hP hg hA0 N K best ways (Nat.le_refl _) (by omega) (fun j i j1 j2 i1 i2 => ?_)
      have : j = K := by omega
      subst this
      obtain ⟨x1, x2⟩ := hlow i i1 (by omega)
      rw [gF_nil]
      exact ⟨x1, x2⟩
    · simp (disch := omega) only [bd, rdI_n, wrI_n, rdL_n, wrL_n, ix6, ix6', ix7, ix7', ix8, ix8', nI_1, q_le, if_neg h]
      refine ih (e + 1) _ _ (by omega) (by omega) (by omega) (fun i i1 i2 => ?_)
      by_cases z : i = e
      · subst z; rw [pk_us, pk_us]; exact ⟨rfl, rfl⟩
      · rw [pk_un z, pk_un z]; exact hlow i i1 (by omega)
theorem weigh_ok (hN : 40000 ≤ N) (hK : K ≤ 8) (hP : P ≤ 6) (hg : GB K P gains) {fst lf : Nat → Nat} {fo left next : Nat → Int32} (hA : AT K P S gains K fst lf fo left next) (best ways : Nat → Int32) :
    ∃ best' ways', WD K P gains lf fst 0 best' ways' ∧ f_X4_weigh N (nI K) (nI P) (nI (fst (K + 1))) fo gains next best ways = some (best', ways') := by
  have hA0 := hA
  obtain ⟨a0, a1, a2, a3, a4, a5, a6, a7, a8⟩ := hA
  unfold f_X4_weigh
  rw [rdI_n _ (by omega) (by decide), bd, a3 K (by omega)]
  exact weigh_10_ok hN hK hP hg hA0 N (fst K) best ways (Nat.le_refl _) (a4 K (Nat.le_refl _)).1 (by omega) (fun i h1 h2 => by omega)
end WEIGH
