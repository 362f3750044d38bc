/-! LOTS4: the class's counting with its memo -/
section LOTS4
variable {N K P : Nat} {W : Nat → Nat → Nat}
def MkOk (K P : Nat) (W : Nat → Nat → Nat) (x y r : Nat) (mk : Nat → Int64) (mm : Nat → Int32) : Prop :=
  ∀ i, i < 2048 → ∃ k, k < (r + 1) * 1048576 ∧ mk i = lN k ∧ ∀ g L, g < 256 → L < 4096 → k = lkey r g L → mm i = nI (lF K P W x y (cnL K g) g (d4 L))
theorem ord_ok : ∀ n : Fin 9, ro_ORDERS n.val = nI (fac n.val) := by decide
theorem or_256 {g a : Nat} (hg : g < 256) (ha : a < 8) : g ||| 2 ^ a < 256 :=
  Nat.or_lt_two_pow (n := 8) hg (Nat.pow_lt_pow_right (by decide) ha)
def RcOk (K P : Nat) (W : Nat → Nat → Nat) (x y r m : Nat) (cl : Nat → Int32) (rc : Int64 → Int32 → Int32 → Int32 → (Nat → Int32) → (Nat → Int64) → (Nat → Int32) → Int32 → Int32 → Int32 → Option (Int32 × (Nat → Int64) × (Nat → Int32))) : Prop :=
  ∀ g L dp mk mm, g < 256 → L < 4096 → cnL K g + dp = K → cnL K g < m → MkOk K P W x y r mk mm →
    ∃ mk' mm', rc (lN r) (nI x) (nI y) (nI K) cl mk mm (nI g) (nI L) (nI dp) = some (nI (lF K P W x y (cnL K g) g (d4 L)), mk', mm') ∧ MkOk K P W x y r mk' mm'
theorem after_ok (hN : 40000 ≤ N) (hK : K ≤ 8) (hP : P ≤ 6) (hW : ∀ a q, W a q ≤ 6) {cl : Nat → Int32} (hl : LikesOk P W cl) {x y r m : Nat} (hx : x < 8) (hy : y < 6) {rc : Int64 → Int32 → Int32 → Int32 → (Nat → Int32) → (Nat → Int64) → (Nat → Int32) → Int32 → Int32 → Int32 → Option (Int32 × (Nat → Int64) × (Nat → Int32))} (hrc : RcOk K P W x y r m cl rc)
    {a g L dp n : Nat} (ha : a < K) (hb : bt g a = 0) (hg : g < 256) (hL : L < 4096) (hc : cnL K g = n + 1) (hd : n + 1 + dp = K) (hm : n < m) {mk : Nat → Int64} {mm : Nat → Int32} (hk : MkOk K P W x y r mk mm) :
    ∃ mk' mm', f_X2_ordersAfter N rc (lN r) (nI x) (nI y) (nI K) cl mk mm (nI a) (nI g) (nI L) (nI dp) = some (nI (if a = x then (if po (W a) (d4 L) P = y + 1 then fac n else 0) else lF K P W x y n (g ||| 2 ^ a) (tkL (W a) (d4 L) P)), mk', mm') ∧ MkOk K P W x y r mk' mm' := by
  unfold f_X2_ordersAfter
  have hbo := po_best (W a) (d4 L) P hP
  rw [X2_takes_ok hN hP hW hl hL (by omega) hbo, bd]
  by_cases hax : a = x
  · rw [if_pos (congrArg nI hax), if_pos hax]
    have ho6 : po (W a) (d4 L) P ≤ 6 := by
      generalize po (W a) (d4 L) P = o at hbo
      cases o with
      | zero => omega
      | succ q => have := hbo.1; omega
    by_cases ho : po (W a) (d4 L) P = y + 1
    · have e : nI K - nI dp - 1 = nI n := by
        rw [pk_sub (by omega), show K - dp = n + 1 by omega, nI_pred]
      rw [ho, oI_s, if_pos rfl, if_pos rfl, e, if_neg (nI_pos (by omega)), if_neg (show ¬ (8 : Int32) < nI n from nI_nlt (a := 8) (by omega) (by decide)), rdI_n _ (by omega) (by decide), bd, ord_ok ⟨n, by omega⟩]
      exact ⟨_, _, rfl, hk⟩
    · rw [if_neg (fun h => ho (by rw [q_on (by omega) (by omega)] at h; exact h)), if_neg ho]
      exact ⟨_, _, rfl, hk⟩
  · rw [if_neg (nI_ne (by omega) (by omega) hax), if_neg hax]
    have hc2 : cnL K (g ||| 2 ^ a) = n := by have := cnL_set ha hb; omega
    have hg2 : g ||| 2 ^ a < 256 := or_256 hg (by omega)
    have fin : ∀ L', L' < 4096 → d4 L' = tkL (W a) (d4 L) P → ∃ mk' mm', f_X2_ordersAfter_80 N rc (lN r) (nI x) (nI y) (nI K) cl mk mm (nI a) (nI g) (nI dp) (nI L') = some (nI (lF K P W x y n (g ||| 2 ^ a) (tkL (W a) (d4 L) P)), mk', mm') ∧ MkOk K P W x y r mk' mm' := by
      intro L' h1 h2
      unfold f_X2_ordersAfter_80
      rw [one_sh (by omega), nI_or, nI_1]
      obtain ⟨mk', mm', e, hk'⟩ := hrc (g ||| 2 ^ a) L' (dp + 1) mk mm hg2 h1 (by omega) (by omega) hk
      rw [e, bd, ← h2, hc2]
      exact ⟨_, _, rfl, hk'⟩
    cases ho : po (W a) (d4 L) P with
    | zero =>
      rw [oI_0, if_pos rfl]
      refine fin L hL ?_
      unfold tkL
      rw [ho]
    | succ q =>
      rw [ho] at hbo
      have hq := hbo.1
      have h0 : 0 < d4 L q := hbo.2.2.1
      have hle : 4 ^ q ≤ L := by
        rcases Nat.lt_or_ge L (4 ^ q) with z | z
        · unfold d4 at h0
          rw [Nat.div_eq_of_lt z] at h0
          exact absurd h0 (Nat.lt_irrefl _)
        · exact z
      rw [oI_s, if_neg (nI_neg1 (by omega)), sh_one (by omega), pk_sub hle]
      refine fin (L - 4 ^ q) (Nat.lt_of_le_of_lt (Nat.sub_le _ _) hL) ?_
      unfold tkL
      rw [ho]
      funext j
      exact d4_take h0
theorem from_81 (hN : 40000 ≤ N) (hK : K ≤ 8) (hP : P ≤ 6) (hW : ∀ a q, W a q ≤ 6) {cl : Nat → Int32} (hl : LikesOk P W cl) {x y r m : Nat} (hx : x < 8) (hy : y < 6) {rc : Int64 → Int32 → Int32 → Int32 → (Nat → Int32) → (Nat → Int64) → (Nat → Int32) → Int32 → Int32 → Int32 → Option (Int32 × (Nat → Int64) × (Nat → Int32))} (hrc : RcOk K P W x y r m cl rc)
    {g L dp i : Nat} (hg : g < 256) (hL : L < 4096) (hd : cnL K g + dp = K) (hm : cnL K g < m + 1) (hi : i < 2048) {key : Int64} :
    ∀ (f j : Nat) (mk : Nat → Int64) (mm : Nat → Int32), j ≤ K → K - j < f → MkOk K P W x y r mk mm →
      ∃ mk' mm', f_X2_ordersFrom_81 N rc (lN r) (nI x) (nI y) (nI K) cl f mk mm (nI g) (nI L) (nI dp) (nI i) key
        (nI (lsum (fun a => if bt g a = 0 then (if a = x then (if po (W a) (d4 L) P = y + 1 then fac (cnL K g - 1) else 0) else lF K P W x y (cnL K g - 1) (g ||| 2 ^ a) (tkL (W a) (d4 L) P)) else 0) j)) (nI j)
        = some (nI (lF K P W x y (cnL K g) g (d4 L)), vp_updL mk' i key, upd mm' i (nI (lF K P W x y (cnL K g) g (d4 L)))) ∧ MkOk K P W x y r mk' mm' := by
  have hF : lF K P W x y (cnL K g) g (d4 L) = lsum (fun a => if bt g a = 0 then (if a = x then (if po (W a) (d4 L) P = y + 1 then fac (cnL K g - 1) else 0) else lF K P W x y (cnL K g - 1) (g ||| 2 ^ a) (tkL (W a) (d4 L) P)) else 0) K := by
    cases hc : cnL K g with
    | zero =>
      refine (lsum_zero (fun a ha => if_neg (fun hb => ?_))).symm
      have := cnL_set ha hb
      omega
    | succ n => rfl
  rw [hF]
  intro f
  induction f with
  | zero => intro j mk mm h1 h2; omega
  | succ f ih =>
    intro j mk mm hj hf hk
    rw [f_X2_ordersFrom_81]
    rcases Nat.eq_or_lt_of_le hj with e | e
    · subst e
      rw [if_pos (nI_le (Nat.le_refl _) (by omega)), wrL_n _ _ hi (by decide), bd, wrI_n _ _ hi (by decide), bd]
      exact ⟨_, _, rfl, hk⟩
    · rw [if_neg (nI_ge e (by omega)), bit1 (by omega) (by omega), nI_1]
      have hb2 := bt_lt g j
      by_cases hb : bt g j = 0
      · rw [hb, if_pos nI_0]
        have hc1 := cnL_set e hb
        obtain ⟨mk1, mm1, e1, hk1⟩ := after_ok hN hK hP hW hl hx hy hrc (n := cnL K g - 1) (dp := dp) e hb hg hL (by omega) (by omega) (by omega) hk
        rw [e1, bd]
        simp only
        rw [nI_add]
        have := ih (j + 1) mk1 mm1 (by omega) (by omega) hk1
        rw [lsum, if_pos hb] at this
        exact this
      · rw [show bt g j = 1 by omega, if_neg (by decide)]
        have := ih (j + 1) mk mm (by omega) (by omega) hk
        rw [lsum, if_neg hb, Nat.add_zero] at this
        exact this
theorem cnL_0 (K : Nat) : cnL K 0 = K := by
  unfold cnL
  induction K with
  | zero => rfl
  | succ K ih => rw [lsum, ih, bt_0]
theorem from_ok (hN : 40000 ≤ N) (hK : K ≤ 8) (hP : P ≤ 6) (hW : ∀ a q, W a q ≤ 6) {cl : Nat → Int32} (hl : LikesOk P W cl) {x y r : Nat} (hx : x < 8) (hy : y < 6) (hr : r < 2 ^ 30) : ∀ d, RcOk K P W x y r d cl (f_X2_ordersFrom N d) := by
  intro d
  induction d with
  | zero => intro g L dp mk mm _ _ _ h; omega
  | succ d ih =>
    intro g L dp mk mm hg hL hd hm hk
    rw [f_X2_ordersFrom]
    by_cases h8 : 8 ≤ dp
    · rw [if_pos (show (8 : Int32) ≤ nI dp from nI_le (a := 8) h8 (by omega)), show cnL K g = 0 by omega]
      exact ⟨_, _, rfl, hk⟩
    · rw [if_neg (show ¬ (8 : Int32) ≤ nI dp from nI_ge (b := 8) (by omega) (by decide)), dig4 hy hL]
      have hd4 := d4_lt L y
      by_cases h0 : d4 L y = 0
      · rw [h0, if_pos nI_0, lF_zero hP _ _ _ h0]
        exact ⟨_, _, rfl, hk⟩
      · have es : ((nI g * 113 + nI L * 37) &&& (2047 : Int32)) = nI ((g * 113 + L * 37) % 2048) := by
          rw [show (113 : Int32) = nI 113 from rfl, show (37 : Int32) = nI 37 from rfl, nI_mul, nI_mul, nI_add]
          exact pk_andN (by omega) 11 (by decide)
        have hi : (g * 113 + L * 37) % 2048 < 2048 := Nat.mod_lt _ (by decide)
        rw [if_neg (nI_ne0 (by omega) (by omega)), es, lkey_ok hg hL]
        generalize (g * 113 + L * 37) % 2048 = i at hi
        rw [rdL_n _ hi (by decide), bd]
        obtain ⟨k, k1, k2, k3⟩ := hk i hi
        have kb : lkey r g L < (r + 1) * 1048576 := by unfold lkey; omega
        rw [k2]
        by_cases hkk : k = lkey r g L
        · rw [if_pos (congrArg lN hkk), rdI_n _ hi (by decide), bd, k3 g L hg hL hkk]
          exact ⟨_, _, rfl, hk⟩
        · rw [if_neg (fun h => hkk (lN_inj (by omega) (by omega) h))]
          have put : ∀ (mk' : Nat → Int64) (mm' : Nat → Int32), MkOk K P W x y r mk' mm' → MkOk K P W x y r (vp_updL mk' i (lN (lkey r g L))) (upd mm' i (nI (lF K P W x y (cnL K g) g (d4 L)))) := by
            intro mk' mm' hk' j hj
            by_cases hji : j = i
            · subst hji
              refine ⟨_, kb, updL_s, fun g' L' hg' hL' he => ?_⟩
              obtain ⟨rfl, rfl⟩ := lkey_inj hg hL hg' hL' he
              exact if_pos rfl
            · obtain ⟨c, c1, c2, c3⟩ := hk' j hj
              refine ⟨c, c1, by rw [updL_n hji]; exact c2, fun g' L' hg' hL' he => ?_⟩
              rw [show upd mm' i (nI (lF K P W x y (cnL K g) g (d4 L))) j = mm' j from if_neg hji]
              exact c3 g' L' hg' hL' he
          obtain ⟨mk', mm', e, hk'⟩ := from_81 hN hK hP hW hl hx hy ih (i := i) (key := lN (lkey r g L)) hg hL hd hm hi N 0 mk mm (Nat.zero_le _) (by omega) hk
          rw [lsum, nI_0] at e
          rw [e]
          exact ⟨_, _, rfl, put mk' mm' hk'⟩
end LOTS4
