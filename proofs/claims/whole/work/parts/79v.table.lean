/-! TABLE: the reference's table of standings -/
section TABLE
variable {N K P : Nat} {S : Nat → Nat} {W T : Nat → Nat → Nat} {mw ms weight fw sw : Nat → Int32} {freed tight : Nat}
theorem ta_97 (hN : 40000 ≤ N) (hG : GD K P S W T) (hs : ∀ q, q < 6 → ms q = nI (S q)) (hw : ∀ a q, a < 8 → q < 6 → mw (a * 6 + q) = nI (W a q)) (hwt : ∀ j, j < P → weight j = nI (wgt S j)) (hfr : freed < 64) (hft : ∀ q, q < P → (bt freed q = 1 ↔ bt tight q ≠ 1)) (hfw : ∀ b, b < K → fw b = nI (fwR W b P)) (hsw : ∀ b, b < K → sw b = nI (swR W tight b P)) {a f s : Nat} (ha : a < K) (hf8 : f ≤ 8) (hsl : s < wgt S P) {c_firsts : Int32} {c_cost : (Nat → Int64)} {c_found : (Nat → Int32)} {c_least : (Nat → Int64)} {stand : Nat → Int64} (hT : TT K P S W tight stand (a + 1)) (k83 : Int32 → Int32 → Int32 → (Nat → Int64) → (Nat → Int32) → (Nat → Int32) → (Nat → Int64) → (Nat → Int32) → (Nat → Int32) → (Nat → Int64) → (Nat → Int32) → Int32 → Int32 → Int32 → Option (Int32 × Int32 × Int32 × (Nat → Int64) × (Nat → Int32) × (Nat → Int32) × (Nat → Int64) × (Nat → Int32) × (Nat → Int32) × (Nat → Int64) × (Nat → Int32))) :
    ∀ (n o : Nat), o ≤ P + 1 → P + 1 - o < n → f_X8_findStand_97 N (nI K) (nI P) mw k83 n (nI (wgt S P - 1)) c_firsts (nI freed) c_cost fw c_found c_least ms sw stand weight (nI a) (nI f) (nI s) (lN (fb_sm (stT W P tight (K - (a + 1)) a f (dig S s)) o)) (nI o) = k83 (nI (wgt S P - 1)) c_firsts (nI freed) c_cost fw c_found c_least ms sw (vp_updL stand ((9 * a + f) * 4096 + s) (lN (stN W P tight (K - a) a f (dig S s)))) weight (nI a) (nI f) (nI (s + 1)) := by
  have hK := hG.K8
  have hP := hG.P6
  have hW4 := wgt_le6 S (fun q _ => hG.S3 q) hP
  intro n
  induction n with
  | zero => intro o h1 h2; omega
  | succ n ih =>
    intro o h1 h2
    rw [f_X8_findStand_97]
    by_cases hc : P < o
    · have : o = P + 1 := by omega
      subst this
      rw [if_pos (nI_lt hc (by omega)), standAt_ok, bd, wrL_n _ _ (by omega) (by decide), bd, nI_1, show K - a = K - (a + 1) + 1 by omega, stN_succ]
    · rw [if_neg (nI_nlt (by omega) (by omega)), X8_standOn_ok hK hG.W6 hP (fun q _ => hG.S3 q) hs hw hwt hfr hft ha (by omega) hf8 hsl (hfw a ha) (hsw a ha) hT, bd, lN_add, nI_1]
      have := ih (o + 1) (by omega) (by omega)
      rw [fb_sm_succ] at this
      exact this
def Pg (K P : Nat) (S : Nat → Nat) (W : Nat → Nat → Nat) (tight a f s : Nat) (stand : Nat → Int64) : Prop := (∀ b, a < b → b ≤ K → TT K P S W tight stand b) ∧ ∀ f' s', (f' < f ∨ f' = f ∧ s' < s) → f' ≤ 8 → s' < wgt S P → stand ((9 * a + f') * 4096 + s') = lN (stN W P tight (K - a) a f' (dig S s'))
theorem updL_s {g : Nat → Int64} {i : Nat} {v : Int64} : vp_updL g i v i = v := by unfold vp_updL; exact if_pos rfl
theorem updL_n {g : Nat → Int64} {i j : Nat} {v : Int64} (h : j ≠ i) : vp_updL g i v j = g j := by unfold vp_updL; exact if_neg h
theorem Pg_upd (hW4 : wgt S P ≤ 4096) {a f s : Nat} {stand : Nat → Int64} (h : Pg K P S W tight a f s stand) (hf8 : f ≤ 8) (hsl : s < wgt S P) : Pg K P S W tight a f (s + 1) (vp_updL stand ((9 * a + f) * 4096 + s) (lN (stN W P tight (K - a) a f (dig S s)))) := by
  refine ⟨fun b h1 h2 f' s' h3 h4 => ?_, fun f' s' h1 h2 h3 => ?_⟩
  · rw [updL_n (by omega)]; exact h.1 b h1 h2 f' s' h3 h4
  · by_cases e : (9 * a + f') * 4096 + s' = (9 * a + f) * 4096 + s
    · have e1 : s' = s := by omega
      have e2 : f' = f := by omega
      rw [e1, e2, updL_s]
    · rw [updL_n e]
      refine h.2 f' s' ?_ h2 h3
      rcases h1 with z | ⟨z1, z2⟩
      · exact Or.inl z
      · refine Or.inr ⟨z1, ?_⟩
        rcases Nat.lt_or_ge s' s with y | y
        · exact y
        · exfalso; apply e; rw [z1, show s' = s by omega]
theorem ta_83 (hN : 40000 ≤ N) (hG : GD K P S W T) (hs : ∀ q, q < 6 → ms q = nI (S q)) (hw : ∀ a q, a < 8 → q < 6 → mw (a * 6 + q) = nI (W a q)) (hwt : ∀ j, j < P → weight j = nI (wgt S j)) (hfr : freed < 64) (hft : ∀ q, q < P → (bt freed q = 1 ↔ bt tight q ≠ 1)) (hfw : ∀ b, b < K → fw b = nI (fwR W b P)) (hsw : ∀ b, b < K → sw b = nI (swR W tight b P)) {a f : Nat} (ha : a < K) (hf8 : f ≤ 8) {c_firsts : Int32} {c_cost : (Nat → Int64)} {c_found : (Nat → Int32)} {c_least : (Nat → Int64)} (k75 : Int32 → Int32 → Int32 → (Nat → Int64) → (Nat → Int32) → (Nat → Int32) → (Nat → Int64) → (Nat → Int32) → (Nat → Int32) → (Nat → Int64) → (Nat → Int32) → Int32 → Int32 → Option (Int32 × Int32 × Int32 × (Nat → Int64) × (Nat → Int32) × (Nat → Int32) × (Nat → Int64) × (Nat → Int32) × (Nat → Int32) × (Nat → Int64) × (Nat → Int32))) :
    ∀ (n s : Nat) (stand : Nat → Int64), s ≤ wgt S P → wgt S P - s < n → Pg K P S W tight a f s stand →
      ∃ stand', f_X8_findStand_83 N (nI K) (nI P) mw k75 n (nI (wgt S P - 1)) c_firsts (nI freed) c_cost fw c_found c_least ms sw stand weight (nI a) (nI f) (nI s) = k75 (nI (wgt S P - 1)) c_firsts (nI freed) c_cost fw c_found c_least ms sw stand' weight (nI a) (nI (f + 1)) ∧ Pg K P S W tight a (f + 1) 0 stand' := by
  have hK := hG.K8
  have hP := hG.P6
  have hW4 := wgt_le6 S (fun q _ => hG.S3 q) hP
  have hW0 := wgt_pos S P
  intro n
  induction n with
  | zero => intro s stand h1 h2; omega
  | succ n ih =>
    intro s stand h1 h2 h3
    rw [f_X8_findStand_83]
    by_cases hc : wgt S P - 1 < s
    · rw [if_pos (nI_lt hc (by omega)), nI_1]
      exact ⟨stand, rfl, h3.1, fun f' s' g1 g2 g3 => h3.2 f' s' (by omega) g2 g3⟩
    · rw [if_neg (nI_nlt (by omega) (by omega))]
      have e := ta_97 (N := N) (c_firsts := c_firsts) (c_cost := c_cost) (c_found := c_found) (c_least := c_least) hN hG hs hw hwt hfr hft hfw hsw ha hf8 (show s < wgt S P by omega) (h3.1 (a + 1) (by omega) (by omega)) (f_X8_findStand_83 N (nI K) (nI P) mw k75 n) N 0 (Nat.zero_le _) (by omega)
      obtain ⟨stand', e1, e2⟩ := ih (s + 1) _ (by omega) (by omega) (Pg_upd hW4 h3 hf8 (show s < wgt S P by omega))
      exact ⟨stand', e.trans e1, e2⟩
theorem ta_75 (hN : 40000 ≤ N) (hG : GD K P S W T) (hs : ∀ q, q < 6 → ms q = nI (S q)) (hw : ∀ a q, a < 8 → q < 6 → mw (a * 6 + q) = nI (W a q)) (hwt : ∀ j, j < P → weight j = nI (wgt S j)) (hfr : freed < 64) (hft : ∀ q, q < P → (bt freed q = 1 ↔ bt tight q ≠ 1)) (hfw : ∀ b, b < K → fw b = nI (fwR W b P)) (hsw : ∀ b, b < K → sw b = nI (swR W tight b P)) {a : Nat} (ha : a < K) {c_firsts : Int32} {c_cost : (Nat → Int64)} {c_found : (Nat → Int32)} {c_least : (Nat → Int64)} (k69 : Int32 → Int32 → Int32 → (Nat → Int64) → (Nat → Int32) → (Nat → Int32) → (Nat → Int64) → (Nat → Int32) → (Nat → Int32) → (Nat → Int64) → (Nat → Int32) → Int32 → Option (Int32 × Int32 × Int32 × (Nat → Int64) × (Nat → Int32) × (Nat → Int32) × (Nat → Int64) × (Nat → Int32) × (Nat → Int32) × (Nat → Int64) × (Nat → Int32))) :
    ∀ (n f : Nat) (stand : Nat → Int64), f ≤ 9 → 9 - f < n → Pg K P S W tight a f 0 stand →
      ∃ stand', f_X8_findStand_75 N (nI K) (nI P) mw k69 n (nI (wgt S P - 1)) c_firsts (nI freed) c_cost fw c_found c_least ms sw stand weight (nI a) (nI f) = k69 (nI (wgt S P - 1)) c_firsts (nI freed) c_cost fw c_found c_least ms sw stand' weight (oI a) ∧ ∀ b, a ≤ b → b ≤ K → TT K P S W tight stand' b := by
  have hK := hG.K8
  have hP := hG.P6
  have hW4 := wgt_le6 S (fun q _ => hG.S3 q) hP
  intro n
  induction n with
  | zero => intro s stand h1 h2; omega
  | succ n ih =>
    intro f stand h1 h2 h3
    rw [f_X8_findStand_75]
    by_cases hc : 9 ≤ f
    · rw [if_pos (show 9 ≤ nI f from nI_le (a := 9) hc (by omega)), show nI a + -1 = oI a from (Int32.sub_eq_add_neg _ _).symm]
      refine ⟨stand, rfl, fun b h4 h5 => ?_⟩
      rcases Nat.lt_or_ge a b with z | z
      · exact h3.1 b z h5
      · rw [show b = a by omega]
        exact fun f' s' g1 g2 => h3.2 f' s' (by omega) g1 g2
    · rw [if_neg (show ¬ 9 ≤ nI f from nI_ge (b := 9) (by omega) (by omega)), show (0 : Int32) = nI 0 from rfl]
      obtain ⟨stand1, e1, e2⟩ := ta_83 (N := N) (c_firsts := c_firsts) (c_cost := c_cost) (c_found := c_found) (c_least := c_least) hN hG hs hw hwt hfr hft hfw hsw ha (show f ≤ 8 by omega) (f_X8_findStand_75 N (nI K) (nI P) mw k69 n) N 0 stand (Nat.zero_le _) (by omega) h3
      obtain ⟨stand2, e3, e4⟩ := ih (f + 1) stand1 (by omega) (by omega) e2
      exact ⟨stand2, e1.trans e3, e4⟩
theorem ta_69 (hN : 40000 ≤ N) (hG : GD K P S W T) (hs : ∀ q, q < 6 → ms q = nI (S q)) (hw : ∀ a q, a < 8 → q < 6 → mw (a * 6 + q) = nI (W a q)) (hwt : ∀ j, j < P → weight j = nI (wgt S j)) (hfr : freed < 64) (hft : ∀ q, q < P → (bt freed q = 1 ↔ bt tight q ≠ 1)) (hfw : ∀ b, b < K → fw b = nI (fwR W b P)) (hsw : ∀ b, b < K → sw b = nI (swR W tight b P)) {c_firsts : Int32} {c_cost : (Nat → Int64)} {c_found : (Nat → Int32)} {c_least : (Nat → Int64)} :
    ∀ (n a : Nat) (stand : Nat → Int64), a ≤ K → a < n → (∀ b, a ≤ b → b ≤ K → TT K P S W tight stand b) →
      ∃ stand', f_X8_findStand_69 N (nI K) (nI P) mw n (nI (wgt S P - 1)) c_firsts (nI freed) c_cost fw c_found c_least ms sw stand weight (oI a) = some (nI (wgt S P - 1), c_firsts, nI freed, c_cost, fw, c_found, c_least, ms, sw, stand', weight) ∧ ∀ b, b ≤ K → TT K P S W tight stand' b := by
  have hK := hG.K8
  intro n
  induction n with
  | zero => intro s stand h1 h2; omega
  | succ n ih =>
    intro a stand h1 h2 h3
    rw [f_X8_findStand_69]
    cases a with
    | zero =>
      rw [if_pos (by decide)]
      exact ⟨stand, rfl, fun b hb => h3 b (Nat.zero_le _) hb⟩
    | succ a =>
      rw [oI_s, if_neg (nI_pos (by omega)), show (0 : Int32) = nI 0 from rfl]
      obtain ⟨stand1, e1, e2⟩ := ta_75 (N := N) (c_firsts := c_firsts) (c_cost := c_cost) (c_found := c_found) (c_least := c_least) hN hG hs hw hwt hfr hft hfw hsw (show a < K by omega) (f_X8_findStand_69 N (nI K) (nI P) mw n) N 0 stand (Nat.zero_le _) (by omega) ⟨fun b g1 g2 => h3 b (by omega) g2, fun f' s' g1 g2 => by omega⟩
      obtain ⟨stand2, e3, e4⟩ := ih a stand1 (by omega) (by omega) e2
      exact ⟨stand2, e1.trans e3, e4⟩
theorem ta_18 (hN : 40000 ≤ N) (hG : GD K P S W T) {f : Nat} (hf8 : f ≤ 8) {c_firsts : Int32} {c_cost : (Nat → Int64)} {c_found : (Nat → Int32)} {c_least : (Nat → Int64)} (k10 : Int32 → Int32 → Int32 → (Nat → Int64) → (Nat → Int32) → (Nat → Int32) → (Nat → Int64) → (Nat → Int32) → (Nat → Int32) → (Nat → Int64) → (Nat → Int32) → Int32 → Option (Int32 × Int32 × Int32 × (Nat → Int64) × (Nat → Int32) × (Nat → Int32) × (Nat → Int64) × (Nat → Int32) × (Nat → Int32) × (Nat → Int64) × (Nat → Int32))) :
    ∀ (n s : Nat) (stand : Nat → Int64), s ≤ wgt S P → wgt S P - s < n → Pg K P S W tight K f s stand →
      ∃ stand', f_X8_findStand_18 N (nI K) (nI P) mw k10 n (nI (wgt S P - 1)) c_firsts (nI freed) c_cost fw c_found c_least ms sw stand weight (nI f) (nI s) = k10 (nI (wgt S P - 1)) c_firsts (nI freed) c_cost fw c_found c_least ms sw stand' weight (nI (f + 1)) ∧ Pg K P S W tight K (f + 1) 0 stand' := by
  have hK := hG.K8
  have hP := hG.P6
  have hW4 := wgt_le6 S (fun q _ => hG.S3 q) hP
  have hW0 := wgt_pos S P
  intro n
  induction n with
  | zero => intro s stand h1 h2; omega
  | succ n ih =>
    intro s stand h1 h2 h3
    rw [f_X8_findStand_18]
    by_cases hc : wgt S P - 1 < s
    · rw [if_pos (nI_lt hc (by omega)), nI_1]
      exact ⟨stand, rfl, h3.1, fun f' s' g1 g2 g3 => h3.2 f' s' (by omega) g2 g3⟩
    · have hu := Pg_upd hW4 h3 hf8 (show s < wgt S P by omega)
      rw [Nat.sub_self, stN] at hu
      rw [if_neg (nI_nlt (by omega) (by omega)), standAt_ok, bd]
      unfold f_X8_findStand_49
      by_cases h0 : f = 0
      · rw [if_pos h0] at hu
        rw [if_pos (by rw [h0]; rfl), wrL_n _ _ (by omega) (by decide), bd, nI_1]
        exact ih (s + 1) _ (by omega) (by omega) hu
      · rw [if_neg h0] at hu
        rw [if_neg (nI_ne0 (by omega) (by omega)), wrL_n _ _ (by omega) (by decide), bd, nI_1]
        exact ih (s + 1) _ (by omega) (by omega) hu
theorem ta_10 (hN : 40000 ≤ N) (hG : GD K P S W T) (hs : ∀ q, q < 6 → ms q = nI (S q)) (hw : ∀ a q, a < 8 → q < 6 → mw (a * 6 + q) = nI (W a q)) (hwt : ∀ j, j < P → weight j = nI (wgt S j)) (hfr : freed < 64) (hft : ∀ q, q < P → (bt freed q = 1 ↔ bt tight q ≠ 1)) (hfw : ∀ b, b < K → fw b = nI (fwR W b P)) (hsw : ∀ b, b < K → sw b = nI (swR W tight b P)) {c_firsts : Int32} {c_cost : (Nat → Int64)} {c_found : (Nat → Int32)} {c_least : (Nat → Int64)} :
    ∀ (n f : Nat) (stand : Nat → Int64), f ≤ 9 → 9 - f < n → Pg K P S W tight K f 0 stand →
      ∃ stand', f_X8_findStand_10 N (nI K) (nI P) mw n (nI (wgt S P - 1)) c_firsts (nI freed) c_cost fw c_found c_least ms sw stand weight (nI f) = some (nI (wgt S P - 1), c_firsts, nI freed, c_cost, fw, c_found, c_least, ms, sw, stand', weight) ∧ ∀ b, b ≤ K → TT K P S W tight stand' b := by
  have hK := hG.K8
  have hW4 := wgt_le6 S (fun q _ => hG.S3 q) hG.P6
  intro n
  induction n with
  | zero => intro s stand h1 h2; omega
  | succ n ih =>
    intro f stand h1 h2 h3
    rw [f_X8_findStand_10]
    by_cases hc : 9 ≤ f
    · rw [if_pos (show 9 ≤ nI f from nI_le (a := 9) hc (by omega)), show nI K - 1 = oI K from rfl]
      exact ta_69 (N := N) (c_firsts := c_firsts) (c_cost := c_cost) (c_found := c_found) (c_least := c_least) hN hG hs hw hwt hfr hft hfw hsw N K stand (Nat.le_refl _) (by omega) (fun b g1 g2 => by
        rw [show b = K by omega]
        exact fun f' s' g3 g4 => h3.2 f' s' (by omega) g3 g4)
    · rw [if_neg (show ¬ 9 ≤ nI f from nI_ge (b := 9) (by omega) (by omega)), show (0 : Int32) = nI 0 from rfl]
      obtain ⟨stand1, e1, e2⟩ := ta_18 (N := N) (fw := fw) (sw := sw) (ms := ms) (mw := mw) (weight := weight) (freed := freed) (c_firsts := c_firsts) (c_cost := c_cost) (c_found := c_found) (c_least := c_least) hN hG (show f ≤ 8 by omega) (f_X8_findStand_10 N (nI K) (nI P) mw n) N 0 stand (Nat.zero_le _) (by omega) h3
      obtain ⟨stand2, e3, e4⟩ := ih (f + 1) stand1 (by omega) (by omega) e2
      exact ⟨stand2, e1.trans e3, e4⟩
theorem findStand_ok (hN : 40000 ≤ N) (hG : GD K P S W T) (hs : ∀ q, q < 6 → ms q = nI (S q)) (hw : ∀ a q, a < 8 → q < 6 → mw (a * 6 + q) = nI (W a q)) {most : Nat} (hI : LI K P S W (2 ^ P) most tight) {c_full : Int32} {c_firsts : Int32} {c_freed : Int32} {c_cost : Nat → Int64} {c_firstWorth : Nat → Int32} {c_found : Nat → Int32} {c_least : Nat → Int64} {c_secondWorth : Nat → Int32} {c_stand : Nat → Int64} {c_weight : Nat → Int32} :
    ∃ freed' cost' fw' found' least' sw' stand' weight', f_X8_findStand N (nI K) (nI P) mw c_full c_firsts c_freed c_cost c_firstWorth c_found c_least ms c_secondWorth c_stand c_weight = some (nI (wgt S P - 1), nI most, nI freed', cost', fw', found', least', ms, sw', stand', weight') ∧ freed' < 64 ∧ (∀ q, q < P → (bt freed' q = 1 ↔ bt tight q ≠ 1)) ∧ (∀ b, b < K → fw' b = nI (fwR W b P)) ∧ (∀ b, b < K → sw' b = nI (swR W tight b P)) ∧ (∀ j, j < P → weight' j = nI (wgt S j)) ∧ ∀ b, b ≤ K → TT K P S W tight stand' b := by
  have hP := hG.P6
  have hK := hG.K8
  have hp64 : 2 ^ P ≤ 2 ^ 6 := Nat.pow_le_pow_right (by decide) hP
  unfold f_X8_findStand
  obtain ⟨full', cost', fw', found', least', sw', weight', e1, e2, e3⟩ := fs_2 (N := N) (c_full := c_full) (c_firsts := c_firsts) (c_freed := c_freed) (c_cost := c_cost) (c_found := c_found) (c_least := c_least) (c_secondWorth := c_secondWorth) (c_weight := c_weight) hN hG hw hs hI N 0 c_firstWorth (Nat.zero_le _) (by omega) (fun b hb => absurd hb (Nat.not_lt_zero _))
  have e1' : f_X8_findStanding N (nI K) (nI P) mw c_full c_firsts c_freed c_cost c_firstWorth c_found c_least ms c_secondWorth c_weight = _ := e1
  have hm := (LI_most hI).1
  rw [e1', bd]
  simp only
  obtain ⟨w', w1, w2⟩ := X8_weights N P S ms weight' full' hP hs (fun q _ => hG.S3 q) hN
  rw [w1, bd]
  simp only
  have hfr : em (frB K P W S) P < 64 := Nat.lt_of_lt_of_le (em_lt _ _) hp64
  have hft : ∀ q, q < P → (bt (em (frB K P W S) P) q = 1 ↔ bt tight q ≠ 1) := fun q hq => by
    rw [bt_em _ P q hq, ← freed_tight hI hq (hG.S1 hq)]
    by_cases e : frB K P W S q = true
    · rw [if_pos e]; exact ⟨fun _ => e, fun _ => rfl⟩
    · rw [if_neg e]; exact ⟨fun z => absurd z (by decide), fun z => absurd z e⟩
  obtain ⟨stand', t1, t2⟩ := ta_10 (N := N) (c_firsts := nI (mN K P W S)) (c_cost := cost') (c_found := found') (c_least := least') (fw := fw') (sw := sw') (ms := ms) (mw := mw) (weight := w') hN hG hs hw w2 hfr hft e2 e3 N 0 c_stand (Nat.zero_le _) (by omega) ⟨fun b g1 g2 => by omega, fun f' s' g1 g2 => by omega⟩
  rw [hm]
  exact ⟨_, _, fw', _, _, sw', stand', w', t1, hfr, hft, e2, e3, w2, t2⟩
end TABLE
