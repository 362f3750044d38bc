/-! COUNT2: both ways to count standings; the call -/
section COUNT2
variable {N K P : Nat} {S : Nat → Nat} {W T : Nat → Nat → Nat} {tight : Nat}
theorem stN_cong : ∀ (n a f : Nat) (σ σ' : Sv), (∀ q, q < P → σ q = σ' q) → stN W P tight n a f σ = stN W P tight n a f σ'
  | 0, _, _, _, _, _ => rfl
  | n + 1, a, f, σ, σ', h => by
    rw [stN_succ, stN_succ]
    refine fb_sm_cong (fun o ho => ?_)
    unfold stT
    cases sRow W P tight 1 0 a o with
    | none => rfl
    | some γ =>
      simp only
      rcases tk_agree h (show o ≤ P by omega) with ⟨h1, h2⟩ | ⟨τ, τ', h1, h2, h3⟩
      · rw [h1, h2]
      · rw [h1, h2]
        simp only
        rw [stN_cong n (a + 1) (f - 1) τ τ' h3, stN_cong n (a + 1) f τ τ' h3]
theorem sRow_01 {a o : Nat} {γ : Int} (h : sRow W P tight 1 0 a o = some γ) : (γ = 1 ∧ isF W P a o = true) ∨ (γ = 0 ∧ isF W P a o = false) := by
  rw [sRow_may] at h
  split at h
  · split at h
    · rename_i hf; cases h; exact Or.inl ⟨rfl, hf⟩
    · rename_i hf; cases h; exact Or.inr ⟨rfl, by simpa using hf⟩
  · cases h
def StIs (x : Bw) (st : Nat → Nat) : Prop := match x with
  | none => ∀ f, st f = 0
  | some q => 0 ≤ q.1 ∧ st q.1.toNat = q.2 ∧ ∀ f : Nat, q.1 < (f : Int) → st f = 0
theorem st_bw : ∀ (n a : Nat) (σ : Sv), StIs (bw P (rf (sRow W P tight 1 0) a n) σ) (fun f => stN W P tight n a f σ)
  | 0, a, σ => ⟨Int.le_refl _, rfl, fun f hf => by
    have : f ≠ 0 := by
      intro z
      rw [z] at hf
      exact absurd hf (by decide)
    show (if f = 0 then 1 else 0) = 0
    rw [if_neg this]⟩
  | n + 1, a, σ => by
    have opt : ∀ o, StIs (cv P (sRow W P tight 1 0 a) (rf (sRow W P tight 1 0) (a + 1) n) σ o) (fun f => stT W P tight n a f σ o) := by
      intro o
      unfold cv stT
      cases hr : sRow W P tight 1 0 a o with
      | none => exact fun f => rfl
      | some γ =>
        simp only
        cases ht : tk σ o with
        | none => exact fun f => rfl
        | some σ' =>
          simp only
          have ih := st_bw n (a + 1) σ'
          cases hb : bw P (rf (sRow W P tight 1 0) (a + 1) n) σ' with
          | none =>
            rw [hb] at ih
            have ih' : ∀ f, stN W P tight n (a + 1) f σ' = 0 := ih
            intro f
            show (if γ = 1 then if f = 0 then 0 else stN W P tight n (a + 1) (f - 1) σ' else stN W P tight n (a + 1) f σ') = 0
            rw [ih', ih']
            split <;> simp
          | some q =>
            rw [hb] at ih
            obtain ⟨i1, i2, i3⟩ := ih
            have i2' : stN W P tight n (a + 1) q.1.toNat σ' = q.2 := i2
            rcases sRow_01 hr with ⟨e, -⟩ | ⟨e, -⟩
            · subst e
              refine ⟨?_, ?_, fun f hf => ?_⟩
              · show 0 ≤ 1 + q.1; omega
              · show (if (1 : Int) = 1 then if (1 + q.1).toNat = 0 then 0 else stN W P tight n (a + 1) ((1 + q.1).toNat - 1) σ' else _) = q.2
                rw [if_pos rfl, if_neg (by omega), show (1 + q.1).toNat - 1 = q.1.toNat by omega]
                exact i2'
              · have hf' : 1 + q.1 < (f : Int) := hf
                show (if (1 : Int) = 1 then if f = 0 then 0 else stN W P tight n (a + 1) (f - 1) σ' else _) = 0
                rw [if_pos rfl, if_neg (by omega)]
                exact i3 (f - 1) (by omega)
            · subst e
              refine ⟨?_, ?_, fun f hf => ?_⟩
              · show 0 ≤ 0 + q.1; omega
              · show (if (0 : Int) = 1 then _ else stN W P tight n (a + 1) (0 + q.1).toNat σ') = q.2
                rw [if_neg (by decide), Int.zero_add]
                exact i2'
              · have hf' : 0 + q.1 < (f : Int) := hf
                show (if (0 : Int) = 1 then _ else stN W P tight n (a + 1) f σ') = 0
                rw [if_neg (by decide)]
                exact i3 f (by omega)
    rw [rf, bw_cons]
    cases hb : fo (cv P (sRow W P tight 1 0 a) (rf (sRow W P tight 1 0) (a + 1) n) σ) (P + 1) with
    | none =>
      intro f
      show stN W P tight (n + 1) a f σ = 0
      rw [stN_succ]
      refine fb_sm_zero_of (fun o ho => ?_)
      have h1 := fo_none.mp hb o ho
      have h2 := opt o
      rw [h1] at h2
      exact h2 f
    | some q =>
      obtain ⟨B, M⟩ := q
      obtain ⟨h1, ⟨o1, ho1, m1, hm1⟩, h3⟩ := fo_some hb
      have hB0 : 0 ≤ B := by
        have := opt o1
        rw [hm1] at this
        exact this.1
      refine ⟨hB0, ?_, fun f hf => ?_⟩
      · show stN W P tight (n + 1) a B.toNat σ = M
        rw [stN_succ, h3]
        refine fb_sm_cong (fun o ho => ?_)
        have h2 := opt o
        unfold wt
        cases hc : cv P (sRow W P tight 1 0 a) (rf (sRow W P tight 1 0) (a + 1) n) σ o with
        | none => rw [hc] at h2; exact h2 _
        | some c =>
          rw [hc] at h2
          obtain ⟨j1, j2, j3⟩ := h2
          have hle := h1 o ho c hc
          simp only
          by_cases e : c.1 = B
          · rw [if_pos e, ← e]; exact j2
          · rw [if_neg e]; exact j3 _ (by omega)
      · show stN W P tight (n + 1) a f σ = 0
        have hf' : B < (f : Int) := hf
        rw [stN_succ]
        refine fb_sm_zero_of (fun o ho => ?_)
        have h2 := opt o
        cases hc : cv P (sRow W P tight 1 0 a) (rf (sRow W P tight 1 0) (a + 1) n) σ o with
        | none => rw [hc] at h2; exact h2 _
        | some c =>
          rw [hc] at h2
          have hle := h1 o ho c hc
          exact h2.2.2 f (by omega)
/-- first places alone do as well -/
theorem dual : ∀ (n a : Nat) (σ σ' : Sv) (os : List Nat) (v : Int), (∀ q, σ q ≤ σ' q) → gv P (rf (sRow W P tight 1 0) a n) σ os = some v → ∃ os', gv P (rf (fRow W P) a n) σ' os' = some v
  | 0, a, σ, σ', [], v, _, h => ⟨[], h⟩
  | 0, a, σ, σ', _ :: _, v, _, h => by cases h
  | n + 1, a, σ, σ', [], v, _, h => by cases h
  | n + 1, a, σ, σ', o :: os, v, hle, h => by
    rw [rf, gv] at h
    split at h
    · rename_i ho
      cases hr : sRow W P tight 1 0 a o with
      | none => rw [hr] at h; cases h
      | some γ =>
        rw [hr] at h
        simp only at h
        cases ht : tk σ o with
        | none => rw [ht] at h; cases h
        | some σ1 =>
          rw [ht] at h
          simp only at h
          cases hg : gv P (rf (sRow W P tight 1 0) (a + 1) n) σ1 os with
          | none => rw [hg] at h; cases h
          | some u =>
            rw [hg] at h
            have hv : v = γ + u := by cases h; rfl
            have hσ1 : ∀ q, σ1 q ≤ σ q := by
              intro q
              unfold tk at ht
              split at ht
              · cases ht; exact Nat.le_refl _
              · split at ht
                · cases ht; unfold dec; split <;> omega
                · cases ht
            rcases sRow_01 hr with ⟨e, hf⟩ | ⟨e, -⟩
            · cases o with
              | zero => cases hf
              | succ q =>
                have hfb : fB W P a q = true := hf
                unfold tk at ht
                simp only at ht
                split at ht
                · rename_i h0
                  cases ht
                  have h0' : 0 < σ' q := Nat.lt_of_lt_of_le h0 (hle q)
                  obtain ⟨os', h'⟩ := dual n (a + 1) (dec σ q) (dec σ' q) os u (fun j => by
                    unfold dec
                    have := hle j
                    split <;> omega) hg
                  refine ⟨(q + 1) :: os', ?_⟩
                  rw [rf, gv, if_pos ho]
                  have hrow : fRow W P a (q + 1) = some 1 := if_pos ⟨hfb, by omega⟩
                  rw [hrow]
                  simp only
                  have htk : tk σ' (q + 1) = some (dec σ' q) := if_pos h0'
                  rw [htk]
                  simp only
                  rw [h', hv, e]
                  rfl
                · cases ht
            · obtain ⟨os', h'⟩ := dual n (a + 1) σ1 σ' os u (fun j => Nat.le_trans (hσ1 j) (hle j)) hg
              refine ⟨0 :: os', ?_⟩
              rw [rf, gv, if_pos (Nat.zero_le _)]
              have hrow : fRow W P a 0 = some 0 := rfl
              rw [hrow]
              simp only
              have htk : tk σ' 0 = some σ' := rfl
              rw [htk]
              simp only
              rw [h', hv, e]
              rfl
    · cases h
theorem sCt_stN {most : Nat} (hI : LI K P S W (2 ^ P) most tight) : sCt P (rf (sRow W P tight 1 0) 0 K) S most = stN W P tight K 0 most S := by
  have h := st_bw (W := W) (P := P) (tight := tight) K 0 S
  unfold sCt
  cases hb : bw P (rf (sRow W P tight 1 0) 0 K) S with
  | none => rw [hb] at h; exact (h most).symm
  | some q =>
    obtain ⟨B, M⟩ := q
    rw [hb] at h
    obtain ⟨j1, j2, j3⟩ := h
    simp only
    have hn := nth_ok P _ S B M 0 hb (bw_pos P _ _ _ _ hb)
    obtain ⟨os', ho⟩ := dual K 0 S S _ B (fun _ => Nat.le_refl _) hn
    obtain ⟨B', M', g1, g2⟩ := gv_le P _ _ _ _ ho
    obtain ⟨⟨M2, g3⟩, -⟩ := mN_spec K P W S
    rw [g3] at g1
    cases g1
    rw [← (LI_most hI).1] at g2
    by_cases e : B = (most : Int)
    · rw [if_pos e]
      have : B.toNat = most := by omega
      have j2' : stN W P tight K 0 B.toNat S = M := j2
      rw [← this]; exact j2'.symm
    · rw [if_neg e]
      exact (j3 most (by omega)).symm
theorem call_standing (hG : GD K P S W T) (hN : 40000 ≤ N) {c_full : Int32} {c_firsts : Int32} {c_freed : Int32} {c_cost : Nat → Int64} {c_firstWorth : Nat → Int32} {c_found : Nat → Int32} {c_least : Nat → Int64} {c_secondWorth : Nat → Int32} {c_stand : Nat → Int64} {c_weight : Nat → Int32} {c_steadiness_most : Int32} {c_steadiness_tight : Int32} {c_steady_askers : Int32} {c_steady_places : Int32} {c_steady_seatBits : Int32} {c_steady_entries : Int32} {c_all_slots : Nat → Int32} {c_steadiness_firsts : Nat → Int32} {c_steady_best : Nat → Int32} {c_steady_clipAll : Nat → Int32} {c_steady_clipToOne : Nat → Int32} {c_steady_clipToTwo : Nat → Int32} {c_steady_firstOf : Nat → Int32} {c_steady_gains : Nat → Int32} {c_steady_left : Nat → Int32} {c_steady_next : Nat → Int32} {c_steady_solvedGains : Nat → Int32} {c_steady_ways : Nat → Int32} (hv : SV c_steady_askers c_steady_places c_steady_seatBits c_steady_best c_steady_next c_steady_solvedGains c_steady_ways) : ∀ {ca cp ma mp : Int32} {cs cl ct cw ms mw mt : Nat → Int32}, SB K P S W T ca cp cs cl ct cw → RepM K P S W T ma mp ms mw mt →
    ∃ r most' tight' ca' cp' sb' ce' slots' firsts' best' clA' clO' clT' fo' g' left' next' sg' ways' full' mf' freed' cost' fw' found' least' sw' stand' weight', f_X7_standing N ca cp cl cs cw c_steadiness_most c_steadiness_tight c_steady_askers c_steady_places c_steady_seatBits c_steady_entries c_all_slots c_steadiness_firsts c_steady_best c_steady_clipAll c_steady_clipToOne c_steady_clipToTwo c_steady_firstOf c_steady_gains c_steady_left c_steady_next c_steady_solvedGains c_steady_ways = some (r, most', tight', ca', cp', sb', ce', slots', firsts', best', clA', clO', clT', fo', g', left', next', sg', ways') ∧
      f_X8_standing N ma mp mw c_full c_firsts c_freed c_cost c_firstWorth c_found c_least ms c_secondWorth c_stand c_weight = some (r, full', mf', freed', cost', fw', found', least', ms, sw', stand', weight') ∧ SV ca' cp' sb' best' next' sg' ways' := by
  intro ca cp ma mp cs cl ct cw ms mw mt hB hM
  obtain ⟨⟨e1, e2, b3, b4, b5⟩, hl⟩ := hB
  obtain ⟨m1, m2, m3, m4, m5⟩ := hM
  have hP := hG.P6
  have hK := hG.K8
  subst e1; subst m1; subst e2; subst m2
  obtain ⟨most, tight, ce', slots', firsts', best', clA', clO', clT', fo', g', left', next', sg', ways', s1, s2, s3, s4, s5, s6, s7⟩ := X7_standing_ok (N := N) (c_steadiness_most := c_steadiness_most) (c_steadiness_tight := c_steadiness_tight) (c_steady_entries := c_steady_entries) (c_all_slots := c_all_slots) (c_steadiness_firsts := c_steadiness_firsts) (c_steady_clipAll := c_steady_clipAll) (c_steady_clipToOne := c_steady_clipToOne) (c_steady_clipToTwo := c_steady_clipToTwo) (c_steady_firstOf := c_steady_firstOf) (c_steady_gains := c_steady_gains) (c_steady_left := c_steady_left) hN hG b3 b4 hl hv
  obtain ⟨freed', cost', fw', found', least', sw', stand', weight', t1, t2, t3, t4, t5, t6, t7⟩ := findStand_ok (N := N) (tight := tight) (most := most) (mw := mw) (ms := ms) (c_full := c_full) (c_firsts := c_firsts) (c_freed := c_freed) (c_cost := c_cost) (c_firstWorth := c_firstWorth) (c_found := c_found) (c_least := c_least) (c_secondWorth := c_secondWorth) (c_stand := c_stand) (c_weight := c_weight) hN hG m3 m4 s2
  have hW4 := wgt_le6 S (fun q _ => hG.S3 q) hP
  have hW0 := wgt_pos S P
  have hm := s2.2.1
  have hst : stand' ((9 * 0 + most) * 4096 + (wgt S P - 1)) = lN (sCt P (rf (sRow W P tight 1 0) 0 K) S most) := by
    rw [t7 0 (Nat.zero_le _) most (wgt S P - 1) (by omega) (by omega), sCt_stN s2, Nat.sub_zero]
    rw [stN_cong K 0 most (dig S (wgt S P - 1)) S (fun q hq => dig_full S hq)]
  have h8 : f_X8_standing N (nI K) (nI P) mw c_full c_firsts c_freed c_cost c_firstWorth c_found c_least ms c_secondWorth c_stand c_weight = some (lN (sCt P (rf (sRow W P tight 1 0) 0 K) S most), nI (wgt S P - 1), nI most, nI freed', cost', fw', found', least', ms, sw', stand', weight') := by
    unfold f_X8_standing
    rw [t1, bd]
    simp only
    rw [show (0 : Int32) = nI 0 from rfl, standAt_ok, bd, rdL_n _ (by omega) (by decide), bd, hst]
  exact ⟨_, _, _, _, _, _, _, _, _, _, _, _, _, _, _, _, _, _, _, _, _, _, _, _, _, _, _, _, _, s1, h8, SV_of hK hP hG.S3 s5 s6 s7⟩
end COUNT2
