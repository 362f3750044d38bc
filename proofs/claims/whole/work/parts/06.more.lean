theorem ltb {a b : Nat} (h : Nat.ble (a + 1) b = true) : a < b := Nat.le_of_ble_eq_true h
theorem leb {a b : Nat} (h : Nat.ble a b = true) : a ≤ b := Nat.le_of_ble_eq_true h
theorem lvS_e {s : List (Option Value)} : lvSub s [] := by cases s <;> trivial
theorem lvS_n {a : Option Value} {s t : List (Option Value)} (h : lvSub s t) : lvSub (a :: s) (none :: t) := h
theorem lvS_v {a : Option Value} {v : Value} {s t : List (Option Value)} (e : a = some v) (h : lvSub s t) : lvSub (a :: s) (some v :: t) := ⟨e, h⟩
theorem ob_z {c : Prop} [Decidable c] {α : Type} {k : Option α} {r : α} (h : (if c then none else k) = some r) : ¬ c ∧ k = some r := by
  by_cases hc : c
  · rw [if_pos hc] at h; cases h
  · rw [if_neg hc] at h; exact ⟨hc, h⟩
theorem os {α : Type} {a b : α} (h : some a = some b) : a = b := Option.some.inj h
section GGC
variable {μ : KM} {κ : KC} {ω : KW} {A : Nat → Prop} {Q : State → Prop} {ad : Nat → Nat} {ce sl pc : Nat} {w : List mE} {lv : List (Option Value)} {st : List Value}
theorem G_copyI {q0 q1 n0 n1 idx : Nat} {f g : Nat → Int32} {sp dp n : Int32} {w2 : List mE} (d : decode μ.2.1 pc = .ok (.invokestatic idx, 3)) (hk : Cond.methodLink μ.1.cls idx arraycopyName ∈ ALLW) (hnat : Cond.native arraycopyName ∈ ALLW) (hst : Cond.static arraycopyName ∈ ALLW) (hini : Cond.initialized "java/lang/System" ∈ ALLW)
    (hc0 : w[q0]? = some (.inl (0, n0, .inl f))) (hc1 : w[q1]? = some (.inl (0, n1, .inl g))) (h1 : ¬ sp < 0) (h2 : ¬ dp < 0) (h3 : ¬ n < 0) (h4 : sp.toNatClampNeg + n.toNatClampNeg ≤ n0) (h5 : dp.toNatClampNeg + n.toNatClampNeg ≤ n1)
    (hfr : 1 ≤ μ.2.2.2.2.1.frames) (hlo : (st.map fun v => v.category).sum + (nativeFrameWords "java/lang/System" "arraycopy" 5 + 11) ≤ μ.2.2.2.2.1.locals) (hw : w.set q1 (.inl (0, n1, .inl (va_cpy f g sp.toNatClampNeg dp.toNatClampNeg n.toNatClampNeg))) = w2) (k : GG μ κ ω A Q ad ce sl (pc + 3) w2 lv st) : GG μ κ ω A Q ad ce sl pc w lv (.int n :: .int dp :: .ref q1 :: .int sp :: .ref q0 :: st) := by
  intro X H locs ls hP hD hS hl
  subst hw
  refine va_copyi X.1 X.2.1 (X.2.2.1.trans hl.1.symm) X.2.2.2.1 (X.2.2.2.2.1 _ hk) (X.2.2.2.2.1 _ hnat) (X.2.2.2.2.1 _ hst) (X.2.2.2.2.1 _ hini) X.2.2.2.2.2.1 hP hD hS q0 q1 0 0 (eW_at hc0) (eW_at hc1) rfl rfl rfl h1 h2 h3 h4 h5 (fun i _ => rfl) hfr (by rw [cat_map]; exact hlo) d (fun H1 locs1 hP1 hD1 hS1 => k X H1 locs1 ls ?_ ?_ hS1 hl)
  · rw [← eW_set]; exact hP1
  · rw [← eW_set]; exact hD1
end GGC
theorem z_0 : vp_nar .boolean 0 = 0 := by decide
theorem z_1 : vp_nar .boolean 1 = 1 := by decide
