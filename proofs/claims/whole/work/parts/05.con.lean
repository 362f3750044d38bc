/-! CONTRACTS: a method takes arguments av and cells w to an answer r and cells w2 -/
def rsQ (ω : KW) (A : Nat → Prop) (ad : Nat → Nat) (r : Option Value) (w2 : List mE) : Array Value → State → Outcome → State → Prop := fun _ st o t =>
  (o = .returned (r.map (eV ad)) ∧ va_P (ω.1, ω.2.1) vwCl (eW ω.2.2 ad w2) t.heap ∧ va_D A (eW ω.2.2 ad w2)) ∧ va_F A st t
def QR (κ : KC) (ω : KW) (A : Nat → Prop) (ad : Nat → Nat) (r : Option Value) (w2 : List mE) : State → Prop :=
  MQ κ.2.2.2.2.2.2.1 (rsQ ω A ad r w2) κ.2.2.2.2.2.1 κ.2.2.2.1 0 0 A
def Con (μ : KM) (av : List Value) (w : List mE) (r : Option Value) (w2 : List mE) : Prop :=
  ∀ (l : Launch) (ω : KW) (ad : Nat → Nat) (sz : Nat),
    Met l μ.1 (.code μ.1 μ.2.1 μ.2.2.1 μ.2.2.2.1 :: ALLW) μ.2.2.2.2.1
      (va_Pc (av.map (eV ad)) (fun U => U.heap.size = sz ∧ va_P (ω.1, ω.2.1) vwCl (eW ω.2.2 ad w) U.heap ∧ va_K (ω.1, ω.2.1) vwCl (mT ω.2.2) U ∧ va_D (fun _ => True) (eW ω.2.2 ad w) ∧ RO μ.2.2.2.2.2.1 μ.2.2.2.2.2.2 ad (va_A (eW ω.2.2 ad w) sz) U U.heap))
      (rsQ ω (va_A (eW ω.2.2 ad w) sz) ad r w2) 0 0 (va_A (eW ω.2.2 ad w) sz)
section CONS
variable {μ : KM} {κ : KC} {ω : KW} {A : Nat → Prop} {Q : State → Prop} {ad : Nat → Nat} {pc : Nat} {w : List mE} {lv : List (Option Value)} {st : List Value}
theorem G_ireturn {x : Int32} (d : decode μ.2.1 pc = .ok (.ireturn, 1)) (hr : μ.2.2.2.1 = some .int) : GG μ κ ω A (QR κ ω A ad (some (.int x)) w) ad 0 0 pc w lv [.int x] := by
  intro X H locs ls hP hD hS hl
  exact W.iret X.1 X.2.1 (X.2.2.2.2.2.2.2.2.1.trans hr) (fun t ht hW => ⟨⟨rfl, by rw [ht]; exact hP, hD⟩, hS.F ht⟩) hS.2.2 d X.2.2.2.2.2.2.2.1
theorem G_zreturn {x : Int32} (d : decode μ.2.1 pc = .ok (.ireturn, 1)) (hr : μ.2.2.2.1 = some .boolean) (hx : vp_nar .boolean x = x) : GG μ κ ω A (QR κ ω A ad (some (.int x)) w) ad 0 0 pc w lv [.int x] := by
  intro X H locs ls hP hD hS hl
  refine W.zret X.1 X.2.1 (X.2.2.2.2.2.2.2.2.1.trans hr) ?_ (fun t ht hW => ⟨⟨rfl, by rw [ht]; exact hP, hD⟩, hS.F ht⟩) hS.2.2 d X.2.2.2.2.2.2.2.1
  exact congrArg Value.int hx
theorem G_lreturn {x : Int64} (d : decode μ.2.1 pc = .ok (.lreturn, 1)) (hr : μ.2.2.2.1 = some .long) : GG μ κ ω A (QR κ ω A ad (some (.long x)) w) ad 0 0 pc w lv [.long x] := by
  intro X H locs ls hP hD hS hl
  exact W.lret X.1 X.2.1 (X.2.2.2.2.2.2.2.2.1.trans hr) (fun t ht hW => ⟨⟨rfl, by rw [ht]; exact hP, hD⟩, hS.F ht⟩) hS.2.2 d X.2.2.2.2.2.2.2.1
theorem G_return (d : decode μ.2.1 pc = .ok (.return_, 1)) (hr : μ.2.2.2.1 = none) : GG μ κ ω A (QR κ ω A ad none w) ad 0 0 pc w lv [] := by
  intro X H locs ls hP hD hS hl
  exact W.vret X.1 X.2.1 (X.2.2.2.2.2.2.2.2.1.trans hr) (fun t ht hW => ⟨⟨rfl, by rw [ht]; exact hP, hD⟩, hS.F ht⟩) hS.2.2 d X.2.2.2.2.2.2.2.1
theorem lgs_len (ad : Nat → Nat) : ∀ av : List Value, (lg_sl (av.map (eV ad))).length = (mA av).length
  | [] => rfl
  | v :: t => by
    have ih := lgs_len ad t
    unfold lg_sl at ih ⊢
    rw [List.map_cons, List.flatMap_cons, List.length_append, ih, eV_cat, mA]
    by_cases hc : v.category = 2
    · rw [if_pos hc, if_pos hc]; simp; omega
    · rw [if_neg hc, if_neg hc]; simp; omega
theorem Con.mk {av : List Value} {r : Option Value} {w2 : List mE} (hy : plainName μ.1.cls = true) (hn : (mA av).length ≤ μ.2.2.1)
    (h : ∀ (κ : KC) (ω : KW) (A : Nat → Prop) (ad : Nat → Nat), GG μ κ ω A (QR κ ω A ad r w2) ad 0 0 0 w (mA av ++ List.replicate (μ.2.2.1 - (mA av).length) none) []) : Con μ av w r w2 := by
  intro l ω ad sz
  refine Met.ofW (cc := μ.2.1) (maxL := μ.2.2.1) (ret := μ.2.2.2.1) hy rfl ?_
  intro p e s m args below meth c s₁ B hml hv
  obtain ⟨rfl, hsz, hP, hK, hD0, hR⟩ := hv
  have hts := atoms_spec (ws := .code μ.1 μ.2.1 μ.2.2.1 μ.2.2.2.1 :: ALLW) B.pre
  have hown : s.vm.findClass μ.1.cls = some m.cls := findClass_of_methodNamed B.named
  subst hsz
  have hD := hD0.self (sz := s.heap.size)
  have hle : (lg_sl (av.map (eV ad))).length ≤ μ.2.2.1 := by rw [lgs_len]; exact hn
  have hl := lv_entry (av.map (eV ad)) (n := μ.2.2.1) hle
  rw [lg_entry_eq]
  refine h (p, l, e, s, m, (av.map (eV ad)).toArray, below, meth, c) ω (va_A (eW ω.2.2 ad w) s.heap.size) ad ⟨B.exec, B.bytes, hml, hown, fun w hw => hts w (List.mem_cons_of_mem _ hw), hK, fun q hq => Or.inr hq, B.notSynchronized, B.returns, (name_of_methodNamed B.named B.method).1, hR⟩ s.heap [] _ hP hD va_S.rf ?_
  exact lv_less hl (mA_has ad _ av 0)
end CONS
/-- the words of a callee: its own -/
def CWm (μ : KM) (n : Nat) : Prop := Cond.code μ.1 μ.2.1 μ.2.2.1 μ.2.2.2.1 ∈ ALLW ∧ Cond.initialized μ.1.cls ∈ ALLW ∧ (μ.1.cls ≠ "java/lang/invoke/MethodHandle" ∧ μ.1.cls ≠ "java/lang/invoke/VarHandle" ∧ (parseMethodDescriptor μ.1.desc).map (fun d => d.parameters.length) = some n)
def CWv (μ : KM) (n : Nat) : Prop := CWm μ n ∧ Cond.instanceMethod μ.1 ∈ ALLW ∧ Cond.selects μ.1.cls μ.1 μ.1 ∈ ALLW
def CWs (μ : KM) (n : Nat) : Prop := CWm μ n ∧ Cond.static μ.1 ∈ ALLW
theorem CWv.good {μ : KM} {n : Nat} (h : CWv μ n) {own : String} {idx : Nat} (hl : Cond.methodLink own idx μ.1 ∈ ALLW) : GoodIn ALLW (wsV own idx μ.1.cls μ.1 (.code μ.1 μ.2.1 μ.2.2.1 μ.2.2.2.1 :: ALLW)) := by
  refine all_in fun w hw => ?_
  simp only [wsV, List.mem_append, List.mem_cons, List.not_mem_nil, or_false] at hw
  rcases hw with (h1 | h1 | h1 | h1) | h1 | h1
  · rw [h1]; exact hl
  · rw [h1]; exact h.2.1
  · rw [h1]; exact h.2.2
  · rw [h1]; exact h.1.2.1
  · rw [h1]; exact h.1.1
  · exact h1
theorem CWs.good {μ : KM} {n : Nat} (h : CWs μ n) {own : String} {idx : Nat} (ho : μ.1.cls = own) (hl : Cond.methodLink own idx μ.1 ∈ ALLW) : GoodIn ALLW (wsS own idx μ.1 (.code μ.1 μ.2.1 μ.2.2.1 μ.2.2.2.1 :: ALLW)) := by
  refine all_in fun w hw => ?_
  simp only [wsS, List.mem_append, List.mem_cons, List.not_mem_nil, or_false] at hw
  rcases hw with (h1 | h1 | h1) | h1 | h1
  · rw [h1]; exact hl
  · rw [h1]; exact h.2
  · rw [h1, ← ho]; exact h.1.2.1
  · rw [h1]; exact h.1.1
  · exact h1
theorem RO.kept {ro : List (Nat × Nat × (Nat → Int32))} {zs : List (String × String × Nat)} {ad : Nat → Nat} {A : Nat → Prop} {U : State} {H H1 : Heap} (h : RO ro zs ad A U H) (hq : ∀ a : Nat, a < H.size → ¬ A a → H1[a]? = H[a]?) : RO ro zs ad A U H1 :=
  ⟨fun q hm => (h.1 q hm).kept hq, fun z hm => (h.2 z hm).kept hq⟩
theorem RO.moved {ro : List (Nat × Nat × (Nat → Int32))} {zs : List (String × String × Nat)} {ad : Nat → Nat} {A : Nat → Prop} {u U : State} {H : Heap} (hvm : u.vm.Alike U.vm) (h : RO ro zs ad A u H) : RO ro zs ad A U H :=
  ⟨fun q hm => (h.1 q hm).moved hvm, fun z hm => (h.2 z hm).moved hvm⟩
theorem RO.narrow {ro : List (Nat × Nat × (Nat → Int32))} {zs : List (String × String × Nat)} {ad : Nat → Nat} {A B : Nat → Prop} {U : State} {H : Heap} (h : RO ro zs ad A U H) (hAB : ∀ q, B q → A q) : RO ro zs ad B U H :=
  ⟨fun q hm => (h.1 q hm).narrow hAB, fun z hm => (h.2 z hm).narrow hAB⟩
/-- the callee's read-only things are the caller's -/
def ROsub (μ μ2 : KM) (ad ad2 : Nat → Nat) : Prop :=
  (∀ q ∈ μ2.2.2.2.2.2.1, ∃ q0 ∈ μ.2.2.2.2.2.1, ad q0.1 = ad2 q.1 ∧ q0.2 = q.2) ∧ ∀ z ∈ μ2.2.2.2.2.2.2, ∃ z0 ∈ μ.2.2.2.2.2.2, ad z0.2.2 = ad2 z.2.2 ∧ z0.1 = z.1 ∧ z0.2.1 = z.2.1
theorem ROsub.nil {μ μ2 : KM} {ad ad2 : Nat → Nat} (h1 : μ2.2.2.2.2.2.1 = []) (h2 : μ2.2.2.2.2.2.2 = []) : ROsub μ μ2 ad ad2 := by
  refine ⟨fun q hq => ?_, fun q hq => ?_⟩
  · rw [h1] at hq; cases hq
  · rw [h2] at hq; cases hq
theorem ROsub.use {μ μ2 : KM} {ad ad2 : Nat → Nat} (h : ROsub μ μ2 ad ad2) {A : Nat → Prop} {U : State} {H : Heap} (hr : RO μ.2.2.2.2.2.1 μ.2.2.2.2.2.2 ad A U H) : RO μ2.2.2.2.2.2.1 μ2.2.2.2.2.2.2 ad2 A U H := by
  refine ⟨fun q hq => ?_, fun z hz => ?_⟩
  · obtain ⟨q0, m, e1, e2⟩ := h.1 q hq
    have := hr.1 q0 m
    rw [e1, e2] at this
    exact this
  · obtain ⟨z0, m, e1, e2, e3⟩ := h.2 z hz
    have := hr.2 z0 m
    rw [e1, e2, e3] at this
    exact this
/-- places of one list out of another -/
def pk (X : va_W) (is : List Nat) : va_W := is.filterMap (fun i => X[i]?)
theorem pk_ok (X : va_W) : ∀ (is : List Nat), is.all (fun i => decide (i < X.length)) = true → is.map (fun i => X[i]?) = (pk X is).map some
  | [], _ => rfl
  | i :: t, h => by
    rw [List.all_cons, Bool.and_eq_true] at h
    have hi : i < X.length := by simpa using h.1
    have ih := pk_ok X t h.2
    unfold pk at ih ⊢
    rw [List.map_cons, List.filterMap_cons, List.getElem?_eq_getElem hi]
    simp [ih]
/-- which places of the caller the callee's cells are -/
def rh (ad : Nat → Nat) (is vs : List Nat) : Nat → Nat := fun j => if j < 1000 then ad (is.getD j 0) else ad (vs.getD (j - 1000) 0)
section CALLS
variable {μ μ2 : KM} {κ : KC} {ω : KW} {A : Nat → Prop} {Q : State → Prop} {ad : Nat → Nat} {pc : Nat} {w wc wc2 w2 : List mE} {lv : List (Option Value)} {st rest : List Value} {av : List Value} {r : Option Value}
/-- what every call needs to know of cells: where the callee's are, where the others are, what comes back -/
def Fit (ω : KW) (ad : Nat → Nat) (w wc wc2 w2 : List mE) (is vs isR pm : List Nat) : Prop :=
  pk (eW ω.2.2 ad w) is = eW ω.2.2 (rh ad is vs) wc ∧ is.all (fun i => decide (i < w.length)) = true ∧ isR.all (fun i => decide (i < w.length)) = true ∧ va_nd isR = true ∧ (∀ i ∈ isR, i ∉ is) ∧ va_nd pm = true ∧ va_nd is = true ∧ pm.all (fun i => decide (i < isR.length + wc2.length)) = true ∧
    pk (pk (eW ω.2.2 ad w) isR ++ eW ω.2.2 (rh ad is vs) wc2) pm = eW ω.2.2 ad w2
theorem G_back {is vs isR pm : List Nat} {p : Program} {l : Launch} {e : Env} {R : Room} {s : State} {m : MethodId} {args : Array Value} {below : List Frame} {meth : Method} {c : Code} {H : Heap} {locs : List Loc} {ls : Array Slot} {st0 rst : List Value} {a : Array Value}
    (F : Fit ω ad w wc wc2 w2 is vs isR pm) (hP : va_P (ω.1, ω.2.1) vwCl (eW ω.2.2 ad w) H) (hD : va_D A (eW ω.2.2 ad w)) (hS : va_S A s.heap H locs) (hA : ∀ q, s.heap.size ≤ q → A q)
    (hr : va_Run p l e R s m args below meth c H locs 0 0 0 0 (F0 m pc ls st0) rst (rsQ ω (va_A (eW ω.2.2 (rh ad is vs) wc) H.size) (rh ad is vs) r wc2 a) (va_A (eW ω.2.2 (rh ad is vs) wc) H.size))
    (kk : ∀ (H1 : Heap) (locs1 : List Loc), va_P (ω.1, ω.2.1) vwCl (eW ω.2.2 ad w2) H1 → va_D A (eW ω.2.2 ad w2) → va_S A s.heap H1 locs1 → W p l e R s m args below meth c H1 locs1 0 0 Q (F0 m (pc + 3) ls ((r.map (eV (rh ad is vs))).toList ++ rst))) :
    W p l e R s m args below meth c H locs 0 0 Q (F0 m pc ls st0) := by
  obtain ⟨f1, f2, f3, f4, f5, f6, f8, f9, f7⟩ := F
  have hin : ∀ js : List Nat, js.all (fun i => decide (i < w.length)) = true → js.all (fun i => decide (i < (eW ω.2.2 ad w).length)) = true := fun js h => by rw [eWf_len]; exact h
  have hc1 : is.map (fun i => (eW ω.2.2 ad w)[i]?) = (eW ω.2.2 (rh ad is vs) wc).map some := by rw [← f1]; exact pk_ok _ _ (hin is f2)
  have hc2 := pk_ok (eW ω.2.2 ad w) isR (hin isR f3)
  have hfree := va_free (wc := eW ω.2.2 (rh ad is vs) wc) hD hS hA is hc1
  intro T hT X
  obtain ⟨v, st₀, t, T', L, h0, X', hL, e1, e2, ⟨⟨hv, hP1, hD1⟩, hz, hk⟩, stp⟩ := hr T hT X
  have hv2 : v = r.map (eV (rh ad is vs)) := by injection hv
  subst hv2
  rw [h0] at hz hk
  obtain ⟨hP2, hD2⟩ := va_join hP hD is isR hc1 hc2 f4 f5 (H1 := t.heap) hk hfree hP1 hD1
  have hP3 := hP2.sub (ws' := eW ω.2.2 ad w2) pm f7
  have hlen : (pk (eW ω.2.2 ad w) isR ++ eW ω.2.2 (rh ad is vs) wc2).length = isR.length + wc2.length := by
    have h := congrArg List.length hc2
    rw [List.length_map, List.length_map] at h
    rw [List.length_append, eWf_len, ← h]
  have hc3 := pk_ok (pk (eW ω.2.2 ad w) isR ++ eW ω.2.2 (rh ad is vs) wc2) pm (by rw [hlen]; exact f9)
  rw [f7] at hc3
  have hD3 := hD2.sub (ws' := eW ω.2.2 ad w2) pm f6 hc3
  obtain ⟨t2, a1, b1⟩ := kk T'.heap (locs ++ L) (by rw [e1]; exact hP3) hD3
    ⟨Nat.le_trans hS.1 (by rw [e1]; exact hz), fun q h1 h2 => by rw [e1, hk q (Nat.lt_of_lt_of_le h1 hS.1) (fun z => h2 (hfree q z))]; exact hS.2.1 q h1 h2, fun q hq => by
      rcases List.mem_append.mp hq with h | h
      · exact hS.2.2 q h
      · exact hfree _ (hL q h)⟩ T' rfl X'
  exact ⟨t2, stp t2 a1, b1⟩
theorem G_pre {is vs isR pm : List Nat} (X : KX μ κ ω A ad) (F : Fit ω ad w wc wc2 w2 is vs isR pm) {H : Heap} {locs : List Loc} (hP : va_P (ω.1, ω.2.1) vwCl (eW ω.2.2 ad w) H) (hD : va_D A (eW ω.2.2 ad w)) (hS : va_S A κ.2.2.2.1.heap H locs) (hro : ROsub μ μ2 ad (rh ad is vs)) :
    (∀ U : State, U.heap = H → κ.2.2.2.1.WarmedH U.vm → va_Pc (av.map (eV (rh ad is vs))) (fun U => U.heap.size = H.size ∧ va_P (ω.1, ω.2.1) vwCl (eW ω.2.2 (rh ad is vs) wc) U.heap ∧ va_K (ω.1, ω.2.1) vwCl (mT ω.2.2) U ∧ va_D (fun _ => True) (eW ω.2.2 (rh ad is vs) wc) ∧ RO μ2.2.2.2.2.2.1 μ2.2.2.2.2.2.2 (rh ad is vs) (va_A (eW ω.2.2 (rh ad is vs) wc) H.size) U U.heap) (av.map (eV (rh ad is vs))).toArray U) ∧ va_P (ω.1, ω.2.1) vwCl (eW ω.2.2 (rh ad is vs) wc) H := by
  obtain ⟨f1, f2, f3, f4, f5, f6, f8, f9, f7⟩ := F
  have hc1 : is.map (fun i => (eW ω.2.2 ad w)[i]?) = (eW ω.2.2 (rh ad is vs) wc).map some := by rw [← f1]; exact pk_ok _ _ (by rw [eWf_len]; exact f2)
  have hfree := va_free (wc := eW ω.2.2 (rh ad is vs) wc) hD hS X.2.2.2.2.2.2.1 is hc1
  have hPc : va_P (ω.1, ω.2.1) vwCl (eW ω.2.2 (rh ad is vs) wc) H := hP.sub is f1
  refine ⟨fun U hU hW => ⟨rfl, by rw [hU], by rw [hU]; exact hPc, va_K.moved hW.alike X.2.2.2.2.2.1, ?_, ?_⟩, hPc⟩
  · exact (hD.sub (ws' := eW ω.2.2 (rh ad is vs) wc) is f8 hc1).weaken (fun _ _ _ _ => trivial)
  · have h1 := hro.use X.2.2.2.2.2.2.2.2.2.2
    have h2 := h1.kept (H1 := H) hS.2.1
    rw [hU]
    exact (h2.narrow hfree).moved hW.alike
end CALLS
section CALLS2
variable {μ μ2 : KM} {κ : KC} {ω : KW} {A : Nat → Prop} {Q : State → Prop} {ad : Nat → Nat} {pc : Nat} {w wc wc2 w2 : List mE} {lv : List (Option Value)} {st rest : List Value} {As rv : List Value} {r : Option Value}
theorem cat_map (ad : Nat → Nat) (l : List Value) : ((l.map (eV ad)).map fun v => v.category) = l.map fun v => v.category := by
  rw [List.map_map]
  exact List.map_congr_left (fun v _ => eV_cat ad v)
theorem G_callV {n idx ci : Nat} {fs : List Value} (is vs isR pm : List Nat) (hcon : Con μ2 (.ref 0 :: As) wc r wc2) (hw : CWv μ2 n) (hlk : Cond.methodLink μ.1.cls idx μ2.1 ∈ ALLW) (d : decode μ.2.1 pc = .ok (.invokevirtual idx, 3)) (hn : As.length = n)
    (hR : μ2.2.2.2.2.1.frames + 1 ≤ μ.2.2.2.2.1.frames ∧ 8 + (μ2.2.2.1 + 11) + μ2.2.2.2.2.1.locals ≤ μ.2.2.2.2.1.locals) (hz : μ2.2.2.2.2.1.cells = 0 ∧ μ2.2.2.2.2.1.slots = 0) (hc : wc[0]? = some (.inr (ci, fs))) (hci : ∃ q, vwCl[ci]? = some q ∧ q.1 = μ2.1.cls)
    (F : Fit ω ad w wc wc2 w2 is vs isR pm) (hst : st.map (eV ad) = (As.map (eV (rh ad is vs))).reverse ++ .ref (rh ad is vs 0) :: rest.map (eV ad)) (hcat : (rest.map fun v => v.category).sum ≤ 8) (hro : ROsub μ μ2 ad (rh ad is vs)) (hrv : (r.map (eV (rh ad is vs))).toList = rv.map (eV ad))
    (kk : GG μ κ ω A Q ad 0 0 (pc + 3) w2 lv (rv ++ rest)) : GG μ κ ω A Q ad 0 0 pc w lv st := by
  intro X H locs ls hP hD hS hl
  obtain ⟨hpre, hPc⟩ := G_pre (μ2 := μ2) (av := .ref 0 :: As) X F hP hD hS hro
  obtain ⟨q, hq, hqc⟩ := hci
  have hrecv := va_recv (s := κ.2.2.2.1) (q0 := 0) (fs := fs.map (eV (rh ad is vs))) X.2.2.2.2.2.1 hPc hq (eW_at hc)
  rw [hqc] at hrecv
  refine G_back (r := r) F hP hD hS X.2.2.2.2.2.2.1 (a := (Value.ref (rh ad is vs 0) :: As.map (eV (rh ad is vs))).toArray) (rst := rest.map (eV ad)) ?_ (fun H1 locs1 hP1 hD1 hS1 => ?_)
  · exact va_runV (As := As.map (eV (rh ad is vs))) (b := rh ad is vs 0) (rest := rest.map (eV ad)) ⟨X.1, X.2.1, X.2.2.1, X.2.2.2.1, X.2.2.2.2.1⟩ (hcon κ.2.1 ω (rh ad is vs) H.size) (cwV n X.2.2.2.2.1 (hw.good hlk) rfl hz.1 hz.2 ⟨rfl, hw.1.2.2⟩ hR)
      ⟨fun a U g mk q => by obtain ⟨q0, q1, qP, qK, qD, qR⟩ := q; exact ⟨q0, q1, qP, va_K.moved (u := U) (U := U.calling g mk a) (Vm.Alike.refl U.vm) qK, qD, RO.moved (u := U) (U := U.calling g mk a) (Vm.Alike.refl U.vm) qR⟩, hrecv, hpre⟩
      rfl (by rw [List.length_map]; exact hn) hl.1 hst (lv_room (by rw [cat_map]; exact hcat)) d ⟨Nat.zero_le _, Nat.zero_le _⟩
  · have := kk X H1 locs1 ls hP1 hD1 hS1 hl
    rw [List.map_append, ← hrv] at this
    exact this
theorem G_callS {n idx : Nat} (is vs isR pm : List Nat) (hcon : Con μ2 As wc r wc2) (hw : CWs μ2 n) (hlk : Cond.methodLink μ.1.cls idx μ2.1 ∈ ALLW) (ho : μ2.1.cls = μ.1.cls) (d : decode μ.2.1 pc = .ok (.invokestatic idx, 3)) (hn : As.length = n)
    (hR : μ2.2.2.2.2.1.frames + 1 ≤ μ.2.2.2.2.1.frames ∧ 8 + (μ2.2.2.1 + 11) + μ2.2.2.2.2.1.locals ≤ μ.2.2.2.2.1.locals) (hz : μ2.2.2.2.2.1.cells = 0 ∧ μ2.2.2.2.2.1.slots = 0)
    (F : Fit ω ad w wc wc2 w2 is vs isR pm) (hst : st.map (eV ad) = (As.map (eV (rh ad is vs))).reverse ++ rest.map (eV ad)) (hcat : (rest.map fun v => v.category).sum ≤ 8) (hro : ROsub μ μ2 ad (rh ad is vs)) (hrv : (r.map (eV (rh ad is vs))).toList = rv.map (eV ad))
    (kk : GG μ κ ω A Q ad 0 0 (pc + 3) w2 lv (rv ++ rest)) : GG μ κ ω A Q ad 0 0 pc w lv st := by
  intro X H locs ls hP hD hS hl
  obtain ⟨hpre, hPc⟩ := G_pre (μ2 := μ2) (av := As) X F hP hD hS hro
  refine G_back (r := r) F hP hD hS X.2.2.2.2.2.2.1 (a := (As.map (eV (rh ad is vs))).toArray) (rst := rest.map (eV ad)) ?_ (fun H1 locs1 hP1 hD1 hS1 => ?_)
  · exact va_runS (As := As.map (eV (rh ad is vs))) (rest := rest.map (eV ad)) ⟨X.1, X.2.1, X.2.2.1, X.2.2.2.1, X.2.2.2.2.1⟩ (hcon κ.2.1 ω (rh ad is vs) H.size) (cwS n X.2.2.2.2.1 (hw.good ho hlk) rfl hz.1 hz.2 ⟨ho, hw.1.2.2⟩ hR)
      ⟨fun a U g mk q => by obtain ⟨q0, q1, qP, qK, qD, qR⟩ := q; exact ⟨q0, q1, qP, va_K.moved (u := U) (U := U.calling g mk a) (Vm.Alike.refl U.vm) qK, qD, RO.moved (u := U) (U := U.calling g mk a) (Vm.Alike.refl U.vm) qR⟩, hpre⟩
      rfl (by rw [List.length_map]; exact hn) hl.1 hst (lv_room (by rw [cat_map]; exact hcat)) d ⟨Nat.zero_le _, Nat.zero_le _⟩
  · have := kk X H1 locs1 ls hP1 hD1 hS1 hl
    rw [List.map_append, ← hrv] at this
    exact this
end CALLS2
/-- a Fit of which all is decided or computed -/
theorem Fit.mk {ω : KW} {ad : Nat → Nat} {w wc wc2 w2 : List mE} {is vs isR pm : List Nat} (h1 : pk (eW ω.2.2 ad w) is = eW ω.2.2 (rh ad is vs) wc) (h7 : pk (pk (eW ω.2.2 ad w) isR ++ eW ω.2.2 (rh ad is vs) wc2) pm = eW ω.2.2 ad w2)
    (h : (is.all (fun i => decide (i < w.length)) && isR.all (fun i => decide (i < w.length)) && va_nd isR && isR.all (fun i => decide (i ∉ is)) && va_nd pm && va_nd is && pm.all (fun i => decide (i < isR.length + wc2.length))) = true) : Fit ω ad w wc wc2 w2 is vs isR pm := by
  simp only [Bool.and_eq_true] at h
  obtain ⟨⟨⟨⟨⟨⟨a, b⟩, c⟩, d⟩, e⟩, f⟩, g⟩ := h
  exact ⟨h1, a, b, c, fun i hi => by simpa using (List.all_eq_true.mp d) i hi, e, f, g, h7⟩
