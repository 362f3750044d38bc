/-! THE SMALL MACHINE: worlds with cells by place, and the judgement GG over the kit's rows -/
def ALLW : List Cond := lw_tbl.filter goodWord
theorem all_of (i : Nat) {w : Cond} (h : tables_1[i]? = some w) (g : goodWord w = true) : w ∈ ALLW :=
  List.mem_filter.mpr ⟨(show w ∈ k2_sels lw_privs ++ tables_1 from List.mem_append_right _ (List.mem_of_getElem? h)), g⟩
theorem all_pr (i : Nat) {w : Cond} (h : (k2_sels lw_privs)[i]? = some w) (g : goodWord w = true) : w ∈ ALLW :=
  List.mem_filter.mpr ⟨(show w ∈ k2_sels lw_privs ++ tables_1 from List.mem_append_left _ (List.mem_of_getElem? h)), g⟩
theorem all_good {w : Cond} (h : w ∈ ALLW) : goodWord w = true := (List.mem_filter.mp h).2
theorem all_in {ws : List Cond} (h : ∀ w ∈ ws, w ∈ ALLW) : GoodIn ALLW ws := fun w hw => ⟨h w hw, good_of_word (all_good (h w hw))⟩
theorem all_tbl {w : Cond} (h : w ∈ ALLW) : w ∈ lw_tbl := (List.mem_filter.mp h).1

abbrev mE : Type := (Nat × vp_A) ⊕ (Nat × List Value)
def eV (ad : Nat → Nat) : Value → Value
  | .ref k => .ref (ad k)
  | v => v
def eE (cA : Nat → ClassId) (ad : Nat → Nat) : mE → va_E
  | .inl q => .inl (cA q.1, q.2)
  | .inr q => .inr (q.1, q.2.map (eV ad))
def eWf (cA : Nat → ClassId) (ad : Nat → Nat) : Nat → List mE → va_W
  | _, [] => []
  | k, c :: t => (ad k, eE cA ad c) :: eWf cA ad (k + 1) t
abbrev eW (cA : Nat → ClassId) (ad : Nat → Nat) (w : List mE) : va_W := eWf cA ad 0 w
theorem eWf_get (cA : Nat → ClassId) (ad : Nat → Nat) : ∀ (w : List mE) (k j : Nat), (eWf cA ad k w)[j]? = (w[j]?).map (fun c => (ad (k + j), eE cA ad c))
  | [], k, j => by simp [eWf]
  | c :: t, k, 0 => by simp [eWf]
  | c :: t, k, j + 1 => by
    rw [eWf, List.getElem?_cons_succ, List.getElem?_cons_succ, eWf_get cA ad t (k + 1) j]
    rw [show k + 1 + j = k + (j + 1) from by omega]
theorem eWf_set (cA : Nat → ClassId) (ad : Nat → Nat) (c : mE) : ∀ (w : List mE) (k j : Nat), (eWf cA ad k w).set j (ad (k + j), eE cA ad c) = eWf cA ad k (w.set j c)
  | [], k, j => by simp [eWf]
  | a :: t, k, 0 => by simp [eWf]
  | a :: t, k, j + 1 => by
    rw [eWf, List.set_cons_succ, List.set_cons_succ, eWf, show k + (j + 1) = k + 1 + j from by omega, eWf_set cA ad c t (k + 1) j]
theorem eWf_len (cA : Nat → ClassId) (ad : Nat → Nat) : ∀ (w : List mE) (k : Nat), (eWf cA ad k w).length = w.length
  | [], k => rfl
  | c :: t, k => by rw [eWf, List.length_cons, List.length_cons, eWf_len cA ad t (k + 1)]
theorem eW_at {cA : Nat → ClassId} {ad : Nat → Nat} {w : List mE} {q : Nat} {c : mE} (h : w[q]? = some c) : (eW cA ad w)[q]? = some (ad q, eE cA ad c) := by
  rw [eWf_get, h, Nat.zero_add]; rfl
theorem eW_set {cA : Nat → ClassId} {ad : Nat → Nat} (w : List mE) (q : Nat) (c : mE) : (eW cA ad w).set q (ad q, eE cA ad c) = eW cA ad (w.set q c) := by
  have h := eWf_set cA ad c w 0 q
  rw [Nat.zero_add] at h
  exact h

def eL (ad : Nat → Nat) : Nat → List (Option Value) → List (Nat × Value)
  | _, [] => []
  | i, none :: t => eL ad (i + 1) t
  | i, some v :: t => (i, eV ad v) :: eL ad (i + 1) t
theorem eL_mem (ad : Nat → Nat) (q : Nat × Value) : ∀ (lv : List (Option Value)) (k : Nat), q ∈ eL ad k lv ↔ ∃ (j : Nat) (u : Value), lv[j]? = some (some u) ∧ q = (k + j, eV ad u)
  | [], k => by simp [eL]
  | none :: t, k => by
    rw [eL, eL_mem ad q t (k + 1)]
    constructor
    · rintro ⟨j, u, h, e⟩
      exact ⟨j + 1, u, by simpa using h, by rw [e]; congr 1; omega⟩
    · rintro ⟨j, u, h, e⟩
      cases j with
      | zero => simp at h
      | succ j => exact ⟨j, u, by simpa using h, by rw [e]; congr 1; omega⟩
  | some v :: t, k => by
    rw [eL, List.mem_cons, eL_mem ad q t (k + 1)]
    constructor
    · rintro (e | ⟨j, u, h, e⟩)
      · exact ⟨0, v, rfl, e⟩
      · exact ⟨j + 1, u, by simpa using h, by rw [e]; congr 1; omega⟩
    · rintro ⟨j, u, h, e⟩
      cases j with
      | zero => left; simp at h; rw [h]; exact e
      | succ j => exact Or.inr ⟨j, u, by simpa using h, by rw [e]; congr 1; omega⟩
theorem eL_at {ad : Nat → Nat} {ls : Array Slot} {n i : Nat} {lv : List (Option Value)} {v : Value} (hl : lv_has ls n (eL ad 0 lv)) (h : lv[i]? = some (some v)) : ls[i]? = some (.val (eV ad v)) :=
  hl.2.2 (i, eV ad v) ((eL_mem ad _ lv 0).mpr ⟨i, v, h, by rw [Nat.zero_add]⟩)
theorem lv_less {ls : Array Slot} {n : Nat} {l l' : List (Nat × Value)} (h : lv_has ls n l) (hs : ∀ q ∈ l', q ∈ l) : lv_has ls n l' := ⟨h.1, h.2.1, fun q hq => h.2.2 q (hs q hq)⟩
/-- what stands two wide just ahead of place i falls when i is written -/
def clr (lv : List (Option Value)) (i : Nat) : List (Option Value) :=
  match i with
  | 0 => lv
  | j + 1 => match lv[j]? with
    | some (some u) => if u.category = 2 then lv.set j none else lv
    | _ => lv
def st1 (lv : List (Option Value)) (i : Nat) (v : Value) : List (Option Value) := (clr lv i).set i (some v)
def st2 (lv : List (Option Value)) (i : Nat) (v : Value) : List (Option Value) := ((clr lv i).set i (some v)).set (i + 1) none
theorem clr_mem {lv : List (Option Value)} {i j : Nat} {u : Value} (hj : j ≠ i) (h : (clr lv i)[j]? = some (some u)) : lv[j]? = some (some u) ∧ ¬ (j + 1 = i ∧ u.category = 2) := by
  cases i with
  | zero => exact ⟨h, fun q => by omega⟩
  | succ i =>
    unfold clr at h
    dsimp only at h
    by_cases hji : j = i
    · subst hji
      cases hv : lv[j]? with
      | none => rw [hv] at h; dsimp only at h; rw [hv] at h; cases h
      | some o =>
        cases o with
        | none => rw [hv] at h; dsimp only at h; rw [hv] at h; cases h
        | some x =>
          rw [hv] at h
          dsimp only at h
          by_cases hc : x.category = 2
          · rw [if_pos hc] at h
            rw [List.getElem?_set] at h
            simp only [if_true] at h
            split at h <;> simp at h
          · rw [if_neg hc, hv] at h
            refine ⟨h, fun q => hc ?_⟩
            have : x = u := by simpa using h
            rw [this]; exact q.2
    · refine ⟨?_, fun q => hji (by omega)⟩
      cases hv : lv[i]? with
      | none => rw [hv] at h; exact h
      | some o =>
        cases o with
        | none => rw [hv] at h; exact h
        | some x =>
          rw [hv] at h
          dsimp only at h
          by_cases hc : x.category = 2
          · rw [if_pos hc, List.getElem?_set_ne (by omega)] at h; exact h
          · rw [if_neg hc] at h; exact h
theorem eV_cat (ad : Nat → Nat) (v : Value) : (eV ad v).category = v.category := by cases v <;> rfl
theorem st1_has {ad : Nat → Nat} {ls : Array Slot} {n i : Nat} {lv : List (Option Value)} {v : Value} (h : lv_has ls n ((i, eV ad v) :: (eL ad 0 lv).filter (fun q => !(q.1 == i) && !(q.1 + 1 == i && q.2.category == 2)))) : lv_has ls n (eL ad 0 (st1 lv i v)) := by
  refine lv_less h (fun q hq => ?_)
  obtain ⟨j, u, hj, e⟩ := (eL_mem ad q _ 0).mp hq
  subst e
  rw [Nat.zero_add]
  unfold st1 at hj
  by_cases hi : j = i
  · subst hi
    rw [List.getElem?_set] at hj
    simp only [if_true] at hj
    split at hj
    · have : v = u := by simpa using hj
      rw [this]; exact List.mem_cons_self
    · cases hj
  · rw [List.getElem?_set_ne (by omega)] at hj
    obtain ⟨h1, h2⟩ := clr_mem hi hj
    refine List.mem_cons_of_mem _ (List.mem_filter.mpr ⟨(eL_mem ad _ lv 0).mpr ⟨j, u, h1, by rw [Nat.zero_add]⟩, ?_⟩)
    dsimp only
    rw [eV_cat]
    by_cases hji : j + 1 = i
    · have hc : ¬ u.category = 2 := fun q => h2 ⟨hji, q⟩
      simp [hi, hc]
    · simp [hi, hji]
theorem st2_has {ad : Nat → Nat} {ls : Array Slot} {n i : Nat} {lv : List (Option Value)} {v : Value} (h : lv_has ls n ((i, eV ad v) :: (eL ad 0 lv).filter (fun q => !(q.1 == i) && (!(q.1 == i + 1) && !(q.1 + 1 == i && q.2.category == 2))))) : lv_has ls n (eL ad 0 (st2 lv i v)) := by
  refine lv_less h (fun q hq => ?_)
  obtain ⟨j, u, hj, e⟩ := (eL_mem ad q _ 0).mp hq
  subst e
  rw [Nat.zero_add]
  unfold st2 at hj
  by_cases hi1 : j = i + 1
  · subst hi1
    rw [List.getElem?_set] at hj
    simp only [if_true] at hj
    split at hj <;> simp at hj
  · rw [List.getElem?_set_ne (by omega)] at hj
    by_cases hi : j = i
    · subst hi
      rw [List.getElem?_set] at hj
      simp only [if_true] at hj
      split at hj
      · have : v = u := by simpa using hj
        rw [this]; exact List.mem_cons_self
      · cases hj
    · rw [List.getElem?_set_ne (by omega)] at hj
      obtain ⟨h1, h2⟩ := clr_mem hi hj
      refine List.mem_cons_of_mem _ (List.mem_filter.mpr ⟨(eL_mem ad _ lv 0).mpr ⟨j, u, h1, by rw [Nat.zero_add]⟩, ?_⟩)
      dsimp only
      rw [eV_cat]
      by_cases hji : j + 1 = i
      · have hc : ¬ u.category = 2 := fun q => h2 ⟨hji, q⟩
        simp [hi, hi1, hc]
      · simp [hi, hi1, hji]
/-- a list of places that keeps less -/
def lvSub : List (Option Value) → List (Option Value) → Prop
  | _, [] => True
  | [], none :: t => lvSub [] t
  | [], some _ :: _ => False
  | _ :: s, none :: t => lvSub s t
  | a :: s, some v :: t => a = some v ∧ lvSub s t
theorem lvSub_get : ∀ (s t : List (Option Value)), lvSub s t → ∀ (j : Nat) (u : Value), t[j]? = some (some u) → s[j]? = some (some u)
  | _, [], _, j, u, h => by simp at h
  | [], none :: t, hs, 0, u, h => by simp at h
  | [], none :: t, hs, j + 1, u, h => by
    have := lvSub_get [] t hs j u (by simpa using h)
    simp at this
  | [], some _ :: t, hs, _, _, _ => hs.elim
  | a :: s, none :: t, hs, 0, u, h => by simp at h
  | a :: s, none :: t, hs, j + 1, u, h => by
    have := lvSub_get s t hs j u (by simpa using h)
    simpa using this
  | a :: s, some v :: t, hs, 0, u, h => by
    rw [hs.1]; exact h
  | a :: s, some v :: t, hs, j + 1, u, h => by
    have := lvSub_get s t hs.2 j u (by simpa using h)
    simpa using this
def mA : List Value → List (Option Value)
  | [] => []
  | v :: t => if v.category = 2 then some v :: none :: mA t else some v :: mA t
theorem mA_has (ad : Nat → Nat) (n : Nat) : ∀ (vs : List Value) (k : Nat), ∀ q ∈ eL ad k (mA vs ++ List.replicate n none), q ∈ lv_args k (vs.map (eV ad))
  | [], k => by
    intro q hq
    obtain ⟨j, u, h, -⟩ := (eL_mem ad q _ k).mp hq
    simp [mA, List.getElem?_replicate] at h
  | v :: t, k => by
    intro q hq
    rw [List.map_cons, lv_args, eV_cat]
    unfold mA at hq
    by_cases hc : v.category = 2
    · rw [if_pos hc] at hq ⊢
      rw [List.cons_append, List.cons_append, eL, eL] at hq
      rcases List.mem_cons.mp hq with h | h
      · rw [h]; exact List.mem_cons_self
      · exact List.mem_cons_of_mem _ (mA_has ad n t (k + 1 + 1) q h)
    · rw [if_neg hc] at hq ⊢
      rw [List.cons_append, eL] at hq
      rcases List.mem_cons.mp hq with h | h
      · rw [h]; exact List.mem_cons_self
      · exact List.mem_cons_of_mem _ (mA_has ad n t (k + 1) q h)
