/-! class Search: an entry for a state -/
section ENTRY
variable {N K P : Nat} {S : Nat → Nat}
def xE (a2 t2 : Int32) : Int32 := a2 &&& (t2 ^^^ (-1 : Int32))
def yE (a2 t2 t1 : Int32) : Int32 := (xE a2 t2 &&& ((3 * t1) ^^^ (-1 : Int32))) ||| (((xE a2 t2 >>> ((1 : Int32) &&& 31)) ||| xE a2 t2) &&& t1)
def zE (a2 t2 t1 t3 : Int32) : Int32 := (yE a2 t2 t1 &&& ((((yE a2 t2 t1 >>> ((1 : Int32) &&& 31)) &&& yE a2 t2 t1) &&& t3) ^^^ (-1 : Int32))) &&& (4095 : Int32)
theorem entryOf_eq (ca co ct fo : Nat → Int32) (ce : Int32) (cl cs : Nat → Int32) (a1 a2 : Int32) : f_X4_entryOf N ca co ct fo ce cl cs a1 a2 =
    (rdI 9 co a1).bind fun t1 => (rdI 9 ca a1).bind fun t2 => (rdI 9 ct a1).bind fun t3 => (rdI 4096 cs (zE a2 t2 t1 t3)).bind fun t4 => (rdI 10 fo a1).bind fun t5 =>
      (if t4 < t5 then f_X4_entryOf_108 N ca co ct fo ce cl cs (zE a2 t2 t1 t3) else
        (if ce ≤ t4 then f_X4_entryOf_108 N ca co ct fo ce cl cs (zE a2 t2 t1 t3) else
          (rdI 1056 cl t4).bind fun t8 => (if t8 = zE a2 t2 t1 t3 then some (t4, ce, cl, cs) else f_X4_entryOf_108 N ca co ct fo ce cl cs (zE a2 t2 t1 t3)))) := rfl
def M32 : Nat := 4294967295
def xN (s A : Nat) : Nat := s &&& (A ^^^ M32)
def yN (s A O : Nat) : Nat := (xN s A &&& ((3 * O) ^^^ M32)) ||| ((xN s A / 2 ||| xN s A) &&& O)
def zN (s A O T : Nat) : Nat := (yN s A O &&& (((yN s A O / 2 &&& yN s A O) &&& T) ^^^ M32)) &&& 4095
theorem and_lt {a : Nat} (b : Nat) {n : Nat} (h : a < n) : a &&& b < n := Nat.lt_of_le_of_lt Nat.and_le_left h
theorem zE_nat {s A O T : Nat} (hs : s < 4096) : zE (nI s) (nI A) (nI O) (nI T) = nI (zN s A O T) := by
  have hx : xE (nI s) (nI A) = nI (xN s A) := by unfold xE xN; rw [nI_all, nI_xor, nI_and]; rfl
  have hxl : xN s A < 4096 := and_lt _ hs
  have h1 : ∀ n, n < 4096 → nI n >>> ((1 : Int32) &&& 31) = nI (n / 2) := fun n hn => sh_r (q := 1) (by omega) (by omega)
  have hy : yE (nI s) (nI A) (nI O) = nI (yN s A O) := by
    unfold yE yN
    rw [hx, h1 _ hxl, show (3 : Int32) = nI 3 from rfl, nI_mul, nI_all, nI_xor, nI_and, nI_or, nI_and, nI_or]; rfl
  have hyl : yN s A O < 4096 := by
    unfold yN
    refine Nat.or_lt_two_pow (n := 12) (and_lt _ hxl) (and_lt _ ?_)
    exact Nat.or_lt_two_pow (n := 12) (by omega) hxl
  unfold zE zN
  rw [hy, h1 _ hyl, nI_and, nI_and, nI_all, nI_xor, nI_and, show (4095 : Int32) = nI 4095 from rfl, nI_and]; rfl
theorem e4_mul3 (σ : Sv) : ∀ n, 3 * e4 σ n = e4 (fun q => 3 * σ q) n
  | 0 => rfl
  | n + 1 => by rw [e4, e4, Nat.mul_add, e4_mul3 σ n, Nat.mul_assoc]
theorem d4_e4_out {σ : Sv} (h : ∀ q, σ q < 4) {n q : Nat} (hq : n ≤ q) : d4 (e4 σ n) q = 0 := by
  unfold d4
  rw [Nat.div_eq_of_lt (Nat.lt_of_lt_of_le (e4_lt h n) (p4_le hq))]
theorem d4_e4_all {σ : Sv} (h : ∀ q, σ q < 4) (n q : Nat) : d4 (e4 σ n) q = if q < n then σ q else 0 := by
  by_cases e : q < n
  · rw [if_pos e, d4_e4 h n q e]
  · rw [if_neg e, d4_e4_out h (by omega)]
/-- one digit of a clipped state -/
theorem digit_ok : ∀ (s h h2 : Fin 4) (t : Fin 4),
    let A := cA t.val; let O := cO t.val; let T := cT t.val
    let x := s.val &&& (A ^^^ 3)
    let y := (x &&& ((3 * O) ^^^ 3)) ||| ((h.val ||| x) &&& O)
    let z := (y &&& (((h2.val &&& y) &&& T) ^^^ 3)) &&& 3
    h.val % 2 = x / 2 → h2.val % 2 = y / 2 → z = min s.val t.val := by decide +kernel
theorem digit_0 : ∀ (s h h2 : Fin 4),
    let x := s.val &&& (0 ^^^ 3)
    let y := (x &&& ((3 * 0) ^^^ 3)) ||| ((h.val ||| x) &&& 0)
    let z := (y &&& (((h2.val &&& y) &&& 0) ^^^ 3)) &&& 3
    z = s.val := by decide +kernel
theorem zN_dig {s : Nat} {t : Nat → Nat} {q : Nat} (hP : P ≤ 6) (hq : q < 6) : d4 (zN s (e4 (fun q => cA (t q)) P) (e4 (fun q => cO (t q)) P) (e4 (fun q => cT (t q)) P)) q = if q < P then min (d4 s q) (t q) else d4 s q := by
  have dA := d4_e4_all (cA_4 t) P q
  have dO := d4_e4_all (cO_4 t) P q
  have dT := d4_e4_all (cT_4 t) P q
  have d3 : d4 (3 * e4 (fun q => cO (t q)) P) q = if q < P then 3 * cO (t q) else 0 := by
    rw [e4_mul3]
    exact d4_e4_all (σ := fun q => 3 * cO (t q)) (fun q => by unfold cO; split <;> omega) P q
  generalize e4 (fun q => cA (t q)) P = A at *
  generalize hO : e4 (fun q => cO (t q)) P = O at *
  generalize e4 (fun q => cT (t q)) P = T at *
  have hx : d4 (xN s A) q = d4 s q &&& (d4 A q ^^^ 3) := by unfold xN; rw [d4_and, d4_xor]; unfold M32; rw [d4_all hq]
  have hy : d4 (yN s A O) q = (d4 (xN s A) q &&& (d4 (3 * O) q ^^^ 3)) ||| ((d4 (xN s A / 2) q ||| d4 (xN s A) q) &&& d4 O q) := by
    unfold yN
    rw [d4_or, d4_and, d4_xor, d4_and, d4_or]; unfold M32; rw [d4_all hq]
  have hz : d4 (zN s A O T) q = (d4 (yN s A O) q &&& (((d4 (yN s A O / 2) q &&& d4 (yN s A O) q) &&& d4 T q) ^^^ 3)) &&& 3 := by
    unfold zN
    rw [d4_and, d4_and, d4_xor, d4_and, d4_and, d4_4095 hq]; unfold M32; rw [d4_all hq]
  have h1 := d4_half (xN s A) q
  have h2 := d4_half (yN s A O) q
  rw [hz]
  by_cases e : q < P
  · rw [if_pos e] at dA dO dT d3 ⊢
    have key := digit_ok ⟨d4 s q, d4_lt s q⟩ ⟨d4 (xN s A / 2) q, d4_lt _ q⟩ ⟨d4 (yN s A O / 2) q, d4_lt _ q⟩ ⟨min (t q) 3, by omega⟩
    have kA : cA (min (t q) 3) = cA (t q) := by unfold cA; by_cases z : t q = 0 <;> simp [z]
    have kO : cO (min (t q) 3) = cO (t q) := by unfold cO; by_cases z : t q = 1 <;> simp [z] ; omega
    have kT : cT (min (t q) 3) = cT (t q) := by unfold cT; by_cases z : t q = 2 <;> simp [z] ; omega
    simp only [kA, kO, kT] at key
    rw [dA] at hx
    rw [d3, dO, hx] at hy
    rw [hx] at h1
    rw [dT, hy]
    rw [hy] at h2
    rw [key h1 h2]
    have := d4_lt s q
    omega
  · rw [if_neg e] at dA dO dT d3 ⊢
    have key := digit_0 ⟨d4 s q, d4_lt s q⟩ ⟨d4 (xN s A / 2) q, d4_lt _ q⟩ ⟨d4 (yN s A O / 2) q, d4_lt _ q⟩
    simp only [Nat.mul_zero] at key
    rw [dA] at hx
    rw [d3, dO, hx] at hy
    rw [dT, hy]
    exact key
/-- the clipped state -/
def clipS (t : Nat → Nat) (P s : Nat) : Nat := zN s (e4 (fun q => cA (t q)) P) (e4 (fun q => cO (t q)) P) (e4 (fun q => cT (t q)) P)
theorem clipS_lt (t : Nat → Nat) (P s : Nat) : clipS t P s < 4096 := by
  unfold clipS zN
  exact Nat.lt_of_le_of_lt Nat.and_le_right (by decide)
/-- entries F .. E - 1 of a level stand where their states say -/
def SlOk (F E : Nat) (lf : Nat → Nat) (slots : Nat → Int32) : Prop := ∀ e, F ≤ e → e < E → slots (lf e) = nI e
theorem entryOf_ok {gains ca co ct fo left slots : Nat → Int32} {lf : Nat → Nat} {k F E s : Nat} (hk : k ≤ 8) (hkK : k ≤ K) (hcl : ClOk (tq K gains) k P ca co ct) (hfo : fo k = nI F) (hE : E ≤ 1056) (hF : F ≤ E) (hs : s < 4096)
    (hlf : ∀ e, e < E → lf e < 4096 ∧ left e = nI (lf e)) (hsl : SlOk F E lf slots) :
    (∃ j, F ≤ j ∧ j < E ∧ lf j = clipS (tq K gains k) P s ∧ f_X4_entryOf N ca co ct fo (nI E) left slots (nI k) (nI s) = some (nI j, nI E, left, slots)) ∨
    ((∀ j, F ≤ j → j < E → lf j ≠ clipS (tq K gains k) P s) ∧ (E < 1056 → f_X4_entryOf N ca co ct fo (nI E) left slots (nI k) (nI s) = some (nI E, nI (E + 1), upd left E (nI (clipS (tq K gains k) P s)), upd slots (clipS (tq K gains k) P s) (nI E)))) := by
  obtain ⟨c1, c2, c3⟩ := hcl
  have hR := clipS_lt (tq K gains k) P s
  have hz : zE (nI s) (ca k) (co k) (ct k) = nI (clipS (tq K gains k) P s) := by rw [c1, c2, c3]; exact zE_nat hs
  generalize clipS (tq K gains k) P s = R at hR hz ⊢
  have hgo : f_X4_entryOf N ca co ct fo (nI E) left slots (nI k) (nI s) = (if slots R < nI F then f_X4_entryOf_108 N ca co ct fo (nI E) left slots (nI R) else
        (if nI E ≤ slots R then f_X4_entryOf_108 N ca co ct fo (nI E) left slots (nI R) else
          (rdI 1056 left (slots R)).bind fun t8 => (if t8 = nI R then some (slots R, nI E, left, slots) else f_X4_entryOf_108 N ca co ct fo (nI E) left slots (nI R)))) := by
    rw [entryOf_eq, rdI_n _ (by omega) (by decide), bd, rdI_n _ (by omega) (by decide), bd, rdI_n _ (by omega) (by decide), bd, hz, rdI_n _ hR (by decide), bd, rdI_n _ (by omega) (by decide), bd, hfo]
  have hnew : E < 1056 → f_X4_entryOf_108 N ca co ct fo (nI E) left slots (nI R) = some (nI E, nI (E + 1), upd left E (nI R), upd slots R (nI E)) := by
    intro h
    unfold f_X4_entryOf_108
    rw [if_pos (show nI E < 1056 from nI_lt (b := 1056) h (by decide)), wrI_n _ _ h (by decide), bd, wrI_n _ _ hR (by decide), bd, nI_1, nI_pred]
  by_cases hin : ∃ j, F ≤ j ∧ j < E ∧ lf j = R
  · obtain ⟨j, j1, j2, j3⟩ := hin
    refine Or.inl ⟨j, j1, j2, j3, ?_⟩
    have hj := hsl j j1 j2
    rw [j3] at hj
    rw [hgo, hj, if_neg (nI_nlt j1 (by omega)), if_neg (nI_ge j2 (by omega)), rdI_n _ (by omega) (by decide), bd, (hlf j j2).2, j3, if_pos rfl]
  · refine Or.inr ⟨fun j j1 j2 j3 => hin ⟨j, j1, j2, j3⟩, fun hlt => ?_⟩
    rw [hgo]
    by_cases h1 : slots R < nI F
    · rw [if_pos h1, hnew hlt]
    · rw [if_neg h1]
      by_cases h2 : nI E ≤ slots R
      · rw [if_pos h2, hnew hlt]
      · rw [if_neg h2]
        have h0 : ¬ slots R < 0 := by
          intro z
          refine h1 ?_
          rw [Int32.lt_iff_toInt_lt] at z ⊢
          rw [nI_toInt (by omega)]
          rw [ti0] at z
          omega
        obtain ⟨j, hj, ej⟩ := i_cases h0 h2 (by omega)
        rw [ej, rdI_n _ (by omega) (by decide), bd, (hlf j hj).2, if_neg (fun e => ?_), hnew hlt]
        have hj2 := nI_inj (by have := (hlf j hj).1; omega) (by omega) e
        refine hin ⟨j, ?_, hj, hj2⟩
        rw [ej] at h1
        exact Nat.le_of_not_lt (fun z => h1 (nI_lt z (by omega)))
end ENTRY
