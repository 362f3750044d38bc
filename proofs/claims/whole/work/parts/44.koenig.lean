/-! most firsts: as many as the least cover is great -/
def frow (P : Nat) (f : Nat → Bool) : Row := fun o => match o with
  | 0 => some 0
  | q + 1 => if f q = true ∧ q < P then some 1 else none
def ksz (σ : Sv) (C : Nat → Bool) : Nat → Nat := fb_sm (fun q => if C q then σ q else 0)
/-- the places up to n that f has are in C -/
def kin (f C : Nat → Bool) : Nat → Bool
  | 0 => true
  | n + 1 => kin f C n && (!f n || C n)
theorem kin_iff {f C : Nat → Bool} : ∀ {n : Nat}, kin f C n = true ↔ ∀ q, q < n → f q = true → C q = true
  | 0 => ⟨fun _ q h => absurd h (Nat.not_lt_zero q), fun _ => rfl⟩
  | n + 1 => by
    rw [kin, Bool.and_eq_true, kin_iff]
    constructor
    · rintro ⟨h1, h2⟩ q hq hf
      rcases Nat.lt_or_ge q n with z | z
      · exact h1 q z hf
      · rw [show q = n from by omega] at hf ⊢
        rw [hf] at h2
        simpa using h2
    · intro h
      refine ⟨fun q hq => h q (by omega), ?_⟩
      cases hf : f n with
      | false => rfl
      | true => rw [h n (by omega) hf]; rfl
def kun (P : Nat) (C : Nat → Bool) : List (Nat → Bool) → Nat
  | [] => 0
  | f :: t => kun P C t + (if kin f C P = true then 0 else 1)
def cov (P : Nat) (fs : List (Nat → Bool)) (σ : Sv) (C : Nat → Bool) : Nat := ksz σ C P + kun P C fs
theorem ksz_union (σ : Sv) (C D : Nat → Bool) : ∀ n, ksz σ (fun q => C q || D q) n + ksz σ (fun q => C q && D q) n = ksz σ C n + ksz σ D n
  | 0 => rfl
  | n + 1 => by
    have ih := ksz_union σ C D n
    have e : ∀ E : Nat → Bool, ksz σ E (n + 1) = ksz σ E n + (if E n = true then σ n else 0) := fun E => rfl
    rw [e, e, e, e]
    have h : (if (C n || D n) = true then σ n else 0) + (if (C n && D n) = true then σ n else 0) = (if C n = true then σ n else 0) + (if D n = true then σ n else 0) := by
      cases C n <;> cases D n <;> simp
    omega
theorem kun_union (P : Nat) (C D : Nat → Bool) : ∀ fs, kun P (fun q => C q || D q) fs + kun P (fun q => C q && D q) fs ≤ kun P C fs + kun P D fs
  | [] => Nat.le_refl _
  | f :: t => by
    have ih := kun_union P C D t
    unfold kun
    have h1 : kin f C P = true → kin f (fun q => C q || D q) P = true := fun h => kin_iff.mpr (fun q hq hf => by rw [kin_iff.mp h q hq hf]; rfl)
    have h2 : kin f D P = true → kin f (fun q => C q || D q) P = true := fun h => kin_iff.mpr (fun q hq hf => by rw [kin_iff.mp h q hq hf, Bool.or_true])
    have h3 : kin f C P = true → kin f D P = true → kin f (fun q => C q && D q) P = true := fun h h' => kin_iff.mpr (fun q hq hf => by rw [kin_iff.mp h q hq hf, kin_iff.mp h' q hq hf]; rfl)
    by_cases c : kin f C P = true
    · by_cases d : kin f D P = true
      · rw [if_pos c, if_pos d, if_pos (h1 c), if_pos (h3 c d)]; omega
      · rw [if_pos c, if_neg d, if_pos (h1 c)]; split <;> omega
    · by_cases d : kin f D P = true
      · rw [if_neg c, if_pos d, if_pos (h2 d)]; split <;> omega
      · rw [if_neg c, if_neg d]; split <;> split <;> omega
theorem cov_union (P : Nat) (fs : List (Nat → Bool)) (σ : Sv) (C D : Nat → Bool) : cov P fs σ (fun q => C q || D q) + cov P fs σ (fun q => C q && D q) ≤ cov P fs σ C + cov P fs σ D := by
  have h1 := ksz_union σ C D P
  have h2 := kun_union P C D fs
  unfold cov
  omega
theorem ksz_dec {σ : Sv} {C : Nat → Bool} {q : Nat} (hq : 0 < σ q) : ∀ n, ksz (dec σ q) C n + (if q < n ∧ C q = true then 1 else 0) = ksz σ C n
  | 0 => by simp [ksz, fb_sm]
  | n + 1 => by
    have ih := ksz_dec (C := C) hq n
    unfold ksz at ih ⊢
    rw [fb_sm_succ, fb_sm_succ, ← ih]
    unfold dec
    by_cases hn : n = q
    · subst hn
      cases hC : C n with
      | false => simp
      | true => simp; omega
    · have e : (q < n + 1 ∧ C q = true) ↔ (q < n ∧ C q = true) := ⟨fun h => ⟨by omega, h.2⟩, fun h => ⟨by omega, h.2⟩⟩
      simp only [e, if_neg hn]
      omega
theorem cov_dec {P : Nat} {fs : List (Nat → Bool)} {σ : Sv} {C : Nat → Bool} {q : Nat} (hq : 0 < σ q) (hP : q < P) : cov P fs (dec σ q) C + (if C q = true then 1 else 0) = cov P fs σ C := by
  have h := ksz_dec (C := C) hq P
  unfold cov
  by_cases c : C q = true
  · rw [if_pos ⟨hP, c⟩] at h; rw [if_pos c]; omega
  · rw [if_neg (fun z => c z.2)] at h; rw [if_neg c]; omega
/-- covers as small as they get, joined -/
theorem cov_join {P : Nat} {fs : List (Nat → Bool)} {σ : Sv} {c : Nat} (hmin : ∀ C, c ≤ cov P fs σ C) {C D : Nat → Bool} (hC : cov P fs σ C = c) (hD : cov P fs σ D = c) : cov P fs σ (fun q => C q || D q) = c := by
  have h := cov_union P fs σ C D
  have h1 := hmin (fun q => C q || D q)
  have h2 := hmin (fun q => C q && D q)
  omega
theorem cov_joinAll {P : Nat} {fs : List (Nat → Bool)} {σ : Sv} {c : Nat} (hmin : ∀ C, c ≤ cov P fs σ C) (h0 : ∃ C, cov P fs σ C = c) {f : Nat → Bool} (h : ∀ q, q < P → f q = true → ∃ C, cov P fs σ C = c ∧ C q = true) : ∀ n, n ≤ P → ∃ C, cov P fs σ C = c ∧ ∀ q, q < n → f q = true → C q = true
  | 0, _ => by
    obtain ⟨C, hC⟩ := h0
    exact ⟨C, hC, fun q hq => absurd hq (Nat.not_lt_zero q)⟩
  | n + 1, hn => by
    obtain ⟨C, hC, hC2⟩ := cov_joinAll hmin h0 h n (by omega)
    by_cases hf : f n = true
    · obtain ⟨D, hD, hD2⟩ := h n (by omega) hf
      refine ⟨fun q => C q || D q, cov_join hmin hC hD, fun q hq hfq => ?_⟩
      rcases Nat.lt_or_ge q n with z | z
      · show (C q || D q) = true
        rw [hC2 q z hfq]; rfl
      · show (C q || D q) = true
        rw [show q = n from by omega, hD2, Bool.or_true]
    · refine ⟨C, hC, fun q hq hfq => ?_⟩
      rcases Nat.lt_or_ge q n with z | z
      · exact hC2 q z hfq
      · rw [show q = n from by omega] at hfq; exact absurd hfq hf
theorem kun_mono {P : Nat} {C D : Nat → Bool} (h : ∀ q, C q = true → D q = true) : ∀ fs, kun P D fs ≤ kun P C fs
  | [] => Nat.le_refl _
  | f :: t => by
    have ih := kun_mono (P := P) h t
    unfold kun
    by_cases c : kin f C P = true
    · rw [if_pos c, if_pos (kin_iff.mpr (fun q hq hf => h q (kin_iff.mp c q hq hf)))]; omega
    · rw [if_neg c]; split <;> omega
theorem ksz_add {σ : Sv} {C : Nat → Bool} {q : Nat} (hs : σ q = 0) : ∀ n, ksz σ (fun j => C j || decide (j = q)) n = ksz σ C n
  | 0 => rfl
  | n + 1 => by
    have ih := ksz_add (C := C) hs n
    unfold ksz at ih ⊢
    rw [fb_sm_succ, fb_sm_succ, ih]
    by_cases hn : n = q
    · subst hn; rw [hs]; simp
    · simp [hn]
theorem koenig (P : Nat) : ∀ (fs : List (Nat → Bool)) (σ : Sv), ∃ (B M : Nat), bw P (fs.map (frow P)) σ = some ((B : Int), M) ∧ (∀ C, B ≤ cov P fs σ C) ∧ ∃ C, cov P fs σ C = B
  | [], σ => by
    refine ⟨0, 1, rfl, fun C => Nat.zero_le _, fun _ => false, ?_⟩
    unfold cov ksz kun
    rw [fb_sm_zero_of (fun k _ => by simp)]
  | f :: t, σ => by
    obtain ⟨c, m, hb, hmin, C0, hC0⟩ := koenig P t σ
    have hle : ∀ C, cov P t σ C ≤ cov P (f :: t) σ C := fun C => by show ksz σ C P + kun P C t ≤ ksz σ C P + (kun P C t + (if kin f C P = true then 0 else 1)); omega
    have hopt : ∀ q, q < P → f q = true → 0 < σ q → ∃ (B M : Nat), cv P (frow P f) (t.map (frow P)) σ (q + 1) = some ((B : Int) + 1, M) ∧ (∀ C, B ≤ cov P t (dec σ q) C) ∧ ∃ C, cov P t (dec σ q) C = B := by
      intro q hq hf hs
      obtain ⟨B, M, h1, h2, h3⟩ := koenig P t (dec σ q)
      refine ⟨B, M, ?_, h2, h3⟩
      have := cv_mk (g := frow P f) (o := q + 1) (γ := 1) (by unfold frow; simp only; rw [if_pos ⟨hf, hq⟩]) (by unfold tk; simp only; rw [if_pos hs]) h1
      rw [this]
      congr 2; omega
    have h0 : cv P (frow P f) (t.map (frow P)) σ 0 = some ((c : Int), m) := by
      have := cv_mk (g := frow P f) (o := 0) (γ := 0) (σ := σ) (σ' := σ) rfl rfl hb
      rw [this]; congr 2; omega
    -- no option passes any cover
    have hup : ∀ C, ∀ o, o < P + 1 → ∀ z, cv P (frow P f) (t.map (frow P)) σ o = some z → z.1 ≤ (cov P (f :: t) σ C : Int) := by
      intro C o ho z hz
      cases o with
      | zero =>
        rw [h0] at hz; cases hz
        have h1 := hmin C
        have h2 := hle C
        show (c : Int) ≤ _
        omega
      | succ q =>
        obtain ⟨γ, σ', b, g1, g2, -, -⟩ := cv_some hz
        have hf : f q = true ∧ q < P := by
          unfold frow at g1; simp only at g1
          by_cases hh : f q = true ∧ q < P
          · exact hh
          · rw [if_neg hh] at g1; cases g1
        have hs : 0 < σ q := by
          unfold tk at g2; simp only at g2
          by_cases hh : 0 < σ q
          · exact hh
          · rw [if_neg hh] at g2; cases g2
        obtain ⟨B, M, k1, k2, -⟩ := hopt q hf.2 hf.1 hs
        rw [k1] at hz; cases hz
        have h1 := k2 C
        have h2 := cov_dec (fs := t) (C := C) hs hf.2
        show (B : Int) + 1 ≤ _
        by_cases hC : C q = true
        · rw [if_pos hC] at h2
          have := hle C
          omega
        · rw [if_neg hC] at h2
          have : ¬ kin f C P = true := fun h => hC (kin_iff.mp h q hf.2 hf.1)
          unfold cov kun at h2 ⊢
          rw [if_neg this]
          unfold cov at h1
          omega
    rw [List.map_cons, bw_cons]
    cases hfo : fo (cv P (frow P f) (t.map (frow P)) σ) (P + 1) with
    | none => have := fo_none.mp hfo 0 (by omega); rw [h0] at this; cases this
    | some z =>
      obtain ⟨zb, zm⟩ := z
      obtain ⟨e1, ⟨o, ho, mo, e2⟩, -⟩ := fo_some hfo
      have hzc : (c : Int) ≤ zb := e1 0 (by omega) _ h0
      have hzu : ∀ C, zb ≤ (cov P (f :: t) σ C : Int) := fun C => hup C o ho _ e2
      by_cases hA : ∃ C, cov P t σ C = c ∧ kin f C P = true
      · obtain ⟨C, hC, hin⟩ := hA
        have hcc : cov P (f :: t) σ C = c := by
          unfold cov at hC ⊢
          unfold kun
          rw [if_pos hin]; omega
        have := hzu C
        have hz : zb = (c : Int) := by omega
        subst hz
        exact ⟨c, zm, rfl, fun C' => Nat.le_trans (hmin C') (hle C'), C, hcc⟩
      · -- some first can be had without a loss
        have hex : ∃ q, q < P ∧ f q = true ∧ 0 < σ q ∧ ∀ C, c ≤ cov P t (dec σ q) C := by
          refine Classical.byContradiction fun hno => hA ?_
          have hall : ∀ q, q < P → f q = true → ∃ C, cov P t σ C = c ∧ C q = true := by
            intro q hq hf
            by_cases hs : 0 < σ q
            · have : ¬ ∀ C, c ≤ cov P t (dec σ q) C := fun h => hno ⟨q, hq, hf, hs, h⟩
              obtain ⟨C, hC⟩ := Classical.not_forall.mp this
              have h2 := cov_dec (fs := t) (C := C) hs hq
              have h3 := hmin C
              by_cases hCq : C q = true
              · rw [if_pos hCq] at h2
                exact ⟨C, by omega, hCq⟩
              · rw [if_neg hCq] at h2; omega
            · have hD : cov P t σ (fun j => C0 j || decide (j = q)) ≤ cov P t σ C0 := by
                have h1 := kun_mono (P := P) (C := C0) (D := fun j => C0 j || decide (j = q)) (fun j hj => by rw [hj]; rfl) t
                have h2 := ksz_add (σ := σ) (C := C0) (q := q) (by omega) P
                unfold cov
                omega
              refine ⟨fun j => C0 j || decide (j = q), ?_, by simp⟩
              have := hmin (fun j => C0 j || decide (j = q))
              omega
          obtain ⟨C, hC, hC2⟩ := cov_joinAll hmin ⟨C0, hC0⟩ hall P (Nat.le_refl _)
          exact ⟨C, hC, kin_iff.mpr hC2⟩
        obtain ⟨q, hq, hf, hs, hm⟩ := hex
        obtain ⟨B, M, k1, k2, C3, hC3⟩ := hopt q hq hf hs
        have hB : c ≤ B := by have := hm C3; omega
        have hz1 := e1 (q + 1) (by omega) _ k1
        simp only at hz1
        have hc0 : cov P (f :: t) σ C0 = c + 1 := by
          unfold cov at hC0 ⊢
          unfold kun
          rw [if_neg (fun h => hA ⟨C0, hC0, h⟩)]; omega
        have hz2 := hzu C0
        have hz : zb = ((c + 1 : Nat) : Int) := by omega
        subst hz
        exact ⟨c + 1, zm, rfl, fun C => by have := hzu C; omega, C0, hc0⟩
