/-! class Search: spread, level by level -/
section SPREAD2
variable {N K P : Nat} {S : Nat → Nat} {gains ca co ct : Nat → Int32}
/-- the graph of entries: each entry's pointers are right -/
def GrOk (K P : Nat) (gains next : Nat → Int32) (lf fst : Nat → Nat) (k : Nat) : Prop := ∀ j i, j < k → fst j ≤ i → i < fst (j + 1) → ∀ c, c ≤ P → NxOk K P gains next lf (lf i) i j (fst (j + 1)) (fst (j + 2)) c
/-- levels 0 .. k stand, those below k with their pointers -/
def AT (K P : Nat) (S : Nat → Nat) (gains : Nat → Int32) (k : Nat) (fst lf : Nat → Nat) (fo left next : Nat → Int32) : Prop :=
  fst 0 = 0 ∧ fst 1 = 1 ∧ fst (k + 1) ≤ 1056 ∧ (∀ j, j ≤ k + 1 → fo j = nI (fst j)) ∧ (∀ j, j ≤ k → fst j ≤ fst (j + 1) ∧ fst (j + 1) ≤ fst j + cnts S j) ∧ (∀ e, e < fst (k + 1) → lf e < 4096 ∧ left e = nI (lf e)) ∧
    (∀ i, fst k ≤ i → i < fst (k + 1) → RS S (tt K gains k) k (lf i)) ∧ GrOk K P gains next lf fst k ∧ lf 0 = e4 S P
theorem fst_mono {fst : Nat → Nat} {k : Nat} (h : ∀ j, j ≤ k → fst j ≤ fst (j + 1)) {a : Nat} : ∀ m, a ≤ m → m ≤ k + 1 → fst a ≤ fst m := by
  intro m hm
  induction m with
  | zero => intro _; rw [show a = 0 by omega]; exact Nat.le_refl _
  | succ m ihm =>
    intro hm2
    rcases Nat.eq_or_lt_of_le hm with y | y
    · rw [← y]; exact Nat.le_refl _
    · have h1 := ihm (by omega) (by omega)
      have h2 := h m (by omega)
      omega
theorem spread_46_ok (hN : 40000 ≤ N) (hK : K ≤ 8) (hP : P ≤ 6) (hS : ∀ q, S q ≤ 3) (hS0 : ∀ q, P ≤ q → S q = 0) (hcl : ∀ k, k ≤ K → ClOk (tq K gains) k P ca co ct) {k : Nat} (hk : k < K) {fst lf0 : Nat → Nat} {fo left0 next0 : Nat → Int32} (hA : AT K P S gains k fst lf0 fo left0 next0) {sb : Int32}
    (k31 : Int32 → (Nat → Int32) → (Nat → Int32) → (Nat → Int32) → (Nat → Int32) → Int32 → Option (Int32 × (Nat → Int32) × (Nat → Int32) × (Nat → Int32) × (Nat → Int32))) :
    ∀ (n e E : Nat) (lf : Nat → Nat) (left next slots : Nat → Int32), fst k ≤ e → e ≤ fst (k + 1) → fst (k + 1) - e < n → SI S (tt K gains (k + 1)) (k + 1) (fst (k + 1)) E lf left slots → (∀ i, i < fst (k + 1) → lf i = lf0 i) → (∀ x, x < fst k * 7 → next x = next0 x) →
      (∀ i, fst k ≤ i → i < e → ∀ c, c ≤ P → NxOk K P gains next lf (lf0 i) i k (fst (k + 1)) E c) →
      ∃ fst' lf' fo' left' next' slots', AT K P S gains (k + 1) fst' lf' fo' left' next' ∧ f_X4_spread_46 N (nI K) (nI P) sb ca co ct gains k31 n (nI E) fo left next slots (nI k) (nI e) = k31 (nI (fst' (k + 2))) fo' left' next' slots' (nI (k + 1)) := by
  obtain ⟨a0, a1, a2, a3, a4, a5, a6, a7, a8⟩ := hA
  have hcapE : ∀ (lf' : Nat → Nat) (E' : Nat), fst (k + 1) ≤ E' → LvOk S (tt K gains (k + 1)) (k + 1) lf' (fst (k + 1)) E' → E' ≤ fst (k + 1) + cnts S (k + 1) := by
    intro lf' E' h1 h2
    have := level_le (n := E' - fst (k + 1)) (f := fun i => lf' (fst (k + 1) + i)) hS (show k + 1 ≤ 8 by omega) (fun q _ => tt_le hK (by omega)) (fun i hi => (h2 (fst (k + 1) + i) (by omega) (by omega)).1) (fun i j hij hj => (h2 (fst (k + 1) + i) (by omega) (by omega)).2 (fst (k + 1) + j) (by omega) (by omega))
    unfold cnts
    omega
  have hcap : ∀ (lf' : Nat → Nat) (E' : Nat), fst (k + 1) ≤ E' → LvOk S (tt K gains (k + 1)) (k + 1) lf' (fst (k + 1)) E' → E' ≤ 1056 := by
    intro lf' E' h1 h2
    have := cap_sum hS (fst := fun j => if j ≤ k + 1 then fst j else E') ((if_pos (show 0 ≤ k + 1 by omega)).trans a0) (m := k + 2) (by omega) (fun j hj => by
      show (if j + 1 ≤ k + 1 then fst (j + 1) else E') ≤ (if j ≤ k + 1 then fst j else E') + cnts S j
      rw [if_pos (show j ≤ k + 1 by omega)]
      by_cases e : j + 1 ≤ k + 1
      · rw [if_pos e]; exact (a4 j (by omega)).2
      · rw [if_neg e, show j = k + 1 by omega]; exact hcapE lf' E' h1 h2)
    have e : (if k + 2 ≤ k + 1 then fst (k + 2) else E') = E' := if_neg (by omega)
    exact e ▸ this
  intro n
  induction n with
  | zero => intro e E lf left next slots h0 h1 h2; omega
  | succ n ih =>
    intro e E lf left next slots h0 h1 h2 hSI hlf0 hnx0 hnx
    rw [f_X4_spread_46]
    by_cases h : fst (k + 1) ≤ e
    · obtain ⟨s1, s2, s3, s4, s5⟩ := hSI
      simp (disch := omega) only [bd, rdI_n, wrI_n, rdL_n, wrL_n, ix6, ix6', ix7, ix7', ix8, ix8', nI_1, a3 (k + 1) (Nat.le_refl _), q_le, if_pos h]
      rw [show nI k + 2 = nI (k + 2) from nI_add k 2, wrI_n _ _ (by omega) (by decide), bd]
      have f1 : ∀ j, j ≤ k + 1 → (fun j => if j = k + 2 then E else fst j) j = fst j := fun j hj => if_neg (by omega)
      have f2 : (fun j => if j = k + 2 then E else fst j) (k + 2) = E := if_pos rfl
      refine ⟨fun j => if j = k + 2 then E else fst j, lf, upd fo (k + 2) (nI E), left, next, slots, ⟨?_, ?_, ?_, fun j hj => ?_, fun j hj => ?_, fun i hi => ?_, fun i g1 g2 => ?_, fun j i g1 g2 g3 c hc => ?_, ?_⟩, ?_⟩
      · rw [f1 0 (by omega)]; exact a0
      · rw [f1 1 (by omega)]; exact a1
      · rw [f2]; exact s2
      · rcases Nat.lt_or_ge j (k + 2) with z | z
        · rw [f1 j (by omega), pk_un (by omega)]; exact a3 j (by omega)
        · rw [show j = k + 2 by omega, f2]; exact pk_us
      · rw [f1 j hj]
        rcases Nat.lt_or_ge j (k + 1) with z | z
        · rw [f1 (j + 1) (by omega)]; exact a4 j (by omega)
        · rw [show j = k + 1 by omega, f2]
          exact ⟨s1, hcapE lf E s1 s5⟩
      · rw [f2] at hi; exact s3 i hi
      · rw [f1 _ (Nat.le_refl _)] at g1
        rw [f2] at g2
        exact (s5 i g1 g2).1
      · rw [f1 j (by omega)] at g2
        rw [f1 (j + 1) (by omega)] at g3 ⊢
        have hfm : ∀ m, j + 1 ≤ m → m ≤ k + 1 → fst (j + 1) ≤ fst m := fun m h1 h2 => fst_mono (fun j hj => (a4 j hj).1) m h1 h2
        rcases Nat.lt_or_ge j k with z | z
        · rw [f1 (j + 2) (by omega)]
          have hi : i < fst (k + 1) := by have := hfm (k + 1) (by omega) (Nat.le_refl _); omega
          have hi2 : i < fst k := by have := hfm k (by omega) (by omega); omega
          have hfe : fst (j + 2) ≤ fst (k + 1) := fst_mono (fun j hj => (a4 j hj).1) (k + 1) (by omega) (Nat.le_refl _)
          rw [hlf0 i hi]
          exact NxOk_mono (a7 j i z g2 g3 c hc) (Nat.le_refl _) (fun x hx => hlf0 x (by omega)) (hnx0 _ (by omega))
        · have ejk : j = k := by omega
          subst ejk
          rw [f2, hlf0 i g3]
          exact hnx i g2 (by omega) c hc
      · have h1k : fst 1 ≤ fst (k + 1) := fst_mono (fun j hj => (a4 j hj).1) (k + 1) (by omega) (Nat.le_refl _)
        rw [hlf0 0 (by omega)]
        exact a8
      · rw [f2]
    · obtain ⟨s1, s2, s3, s4, s5⟩ := hSI
      simp (disch := omega) only [bd, rdI_n, wrI_n, rdL_n, wrL_n, ix6, ix6', ix7, ix7', ix8, ix8', nI_1, a3 (k + 1) (Nat.le_refl _), q_le, if_neg h]
      have hle := (s3 e (by omega)).2
      rw [hlf0 e (by omega)] at hle
      have hRS := a6 e h0 (by omega)
      obtain ⟨E', lf', left', next', slots', g1, g2, g3, g4, g5, g6⟩ := spreadEntry_10_ok (N := N) (S := S) (ca := ca) (co := co) (ct := ct) hK hP hS0 (fo := fo) (k := k) (e := e) (F := fst (k + 1)) (s := lf0 e) hk (by omega) (a3 (k + 1) (Nat.le_refl _)) (hcl (k + 1) (by omega)) hcap hRS next N 0 E lf left next slots (by omega) (by omega) ⟨s1, s2, s3, s4, s5⟩ (fun c' hc' => absurd hc' (Nat.not_lt_zero _)) (fun _ _ => rfl)
      have hsp : f_X4_spreadEntry N (nI P) ca co ct fo gains (nI E) left next slots (nI k) (nI e) = some (nI E', left', next', slots') := by
        unfold f_X4_spreadEntry
        rw [rdI_n _ (by omega) (by decide), bd, hle]
        exact g6
      rw [hsp, bd]
      exact ih (e + 1) E' lf' left' next' slots' (by omega) (by omega) (by omega) g3 (fun i hi => by rw [g2 i (by omega), hlf0 i hi]) (fun x hx => by rw [g5 x (Or.inl (by omega)), hnx0 x hx]) (fun i i1 i2 c hc => by
        rcases Nat.lt_or_ge i e with z | z
        · exact NxOk_mono (hnx i i1 z c hc) g1 g2 (g5 _ (Or.inl (by omega)))
        · rw [show i = e by omega]; exact g4 c hc)
theorem spread_31_ok (hN : 40000 ≤ N) (hK : K ≤ 8) (hP : P ≤ 6) (hS : ∀ q, S q ≤ 3) (hS0 : ∀ q, P ≤ q → S q = 0) (hcl : ∀ k, k ≤ K → ClOk (tq K gains) k P ca co ct) {sb : Int32} :
    ∀ (n k : Nat) (fst lf : Nat → Nat) (fo left next slots : Nat → Int32), k ≤ K → K - k < n → AT K P S gains k fst lf fo left next →
      ∃ fst' lf' fo' left' next' slots', AT K P S gains K fst' lf' fo' left' next' ∧ f_X4_spread_31 N (nI K) (nI P) sb ca co ct gains n (nI (fst (k + 1))) fo left next slots (nI k) = some (nI (fst' (K + 1)), fo', left', next', slots') := by
  intro n
  induction n with
  | zero => intro k fst lf fo left next slots h1 h2; omega
  | succ n ih =>
    intro k fst lf fo left next slots hk hn hA
    rw [f_X4_spread_31]
    by_cases h : K ≤ k
    · have : k = K := by omega
      subst this
      simp (disch := omega) only [bd, rdI_n, wrI_n, rdL_n, wrL_n, ix6, ix6', ix7, ix7', ix8, ix8', nI_1, q_le, if_pos]
      exact ⟨fst, lf, fo, left, next, slots, hA, rfl⟩
    · have hA0 := hA
      obtain ⟨a0, a1, a2, a3, a4, a5, a6, a7, a8⟩ := hA
      have hfk := (a4 k (by omega)).1
      simp (disch := omega) only [bd, rdI_n, wrI_n, rdL_n, wrL_n, ix6, ix6', ix7, ix7', ix8, ix8', nI_1, q_le, if_neg h, a3 k (show k ≤ k + 1 by omega)]
      obtain ⟨fst', lf', fo', left', next', slots', g1, g2⟩ := spread_46_ok (N := N) (sb := sb) hN hK hP hS hS0 hcl (show k < K by omega) hA0 (f_X4_spread_31 N (nI K) (nI P) sb ca co ct gains n) N (fst k) (fst (k + 1)) lf left next slots (Nat.le_refl _) hfk (by omega)
        ⟨Nat.le_refl _, a2, a5, fun e h1 h2 => by omega, fun i h1 h2 => by omega⟩ (fun _ _ => rfl) (fun _ _ => rfl) (fun i h1 h2 => by omega)
      rw [g2]
      exact ih (k + 1) fst' lf' fo' left' next' slots' (by omega) (by omega) g1
theorem spread_ok (hN : 40000 ≤ N) (hK : K ≤ 8) (hP : P ≤ 6) (hS : ∀ q, S q ≤ 3) (hS0 : ∀ q, P ≤ q → S q = 0) (hcl : ∀ k, k ≤ K → ClOk (tq K gains) k P ca co ct) (ce : Int32) (fo left next slots : Nat → Int32) :
    ∃ fst lf fo' left' next' slots', AT K P S gains K fst lf fo' left' next' ∧ f_X4_spread N (nI K) (nI P) (nI (e4 S P)) ca co ct gains ce fo left next slots = some (nI (fst (K + 1)), fo', left', next', slots') := by
  unfold f_X4_spread
  have hS4 : ∀ q, S q < 4 := fun q => Nat.lt_of_le_of_lt (hS q) (by decide)
  have hlt := e4_lt hS4 P
  have h46 : 4 ^ P ≤ 4 ^ 6 := p4_le hP
  rw [show (0 : Int32) = nI 0 from rfl, show (1 : Int32) = nI 1 from rfl, wrI_n _ _ (by omega) (by decide), bd, wrI_n _ _ (by omega) (by decide), bd, wrI_n _ _ (by omega) (by decide), bd]
  have hc0 : 1 ≤ cnts S 0 := by
    unfold cnts
    refine level_le (t := fun _ => 8) (k := 0) (n := 1) (f := fun _ => e4 S P) hS (by omega) (fun q _ => by omega) (fun i _ => ⟨S, fun q _ => Nat.le_refl _, ?_, by omega, fun q hq => ?_⟩) (fun i j h1 h2 => by omega)
    · exact Nat.le_of_eq (fb_sm_zero_of (fun k _ => Nat.sub_self _))
    · rw [d4_e4_all hS4]
      have := hS q
      show _ = min (S q) 8
      by_cases e : q < P
      · rw [if_pos e]; omega
      · rw [if_neg e, hS0 q (by omega)]; omega
  have hA : AT K P S gains 0 (fun j => if j = 0 then 0 else 1) (fun _ => e4 S P) (upd (upd fo 0 (nI 0)) 1 (nI 1)) (upd left 0 (nI (e4 S P))) next := by
    refine ⟨rfl, rfl, by show 1 ≤ 1056; omega, fun j hj => ?_, fun j hj => ?_, fun e he => ?_, fun i h1 h2 => ?_, fun j i h1 => by omega, rfl⟩
    · rcases Nat.lt_or_ge j 1 with z | z
      · rw [pk_un (by omega), show j = 0 by omega]; exact pk_us
      · rw [show j = 1 by omega]; exact pk_us
    · rw [show j = 0 by omega]
      exact ⟨Nat.zero_le _, by simpa using hc0⟩
    · have : e = 0 := by
        have : e < 1 := he
        omega
      rw [this]
      exact ⟨Nat.lt_of_lt_of_le hlt h46, pk_us⟩
    · refine ⟨S, fun q _ => Nat.le_refl _, Nat.le_of_eq (fb_sm_zero_of (fun k _ => Nat.sub_self _)), Nat.lt_of_lt_of_le hlt h46, fun q hq => ?_⟩
      rw [d4_e4_all hS4]
      have := hS q
      unfold tt
      rw [if_pos rfl]
      by_cases e : q < P
      · rw [if_pos e]; omega
      · rw [if_neg e, hS0 q (by omega)]; omega
  exact spread_31_ok hN hK hP hS hS0 hcl N 0 _ _ _ _ _ _ (Nat.zero_le _) (by omega) hA
end SPREAD2
