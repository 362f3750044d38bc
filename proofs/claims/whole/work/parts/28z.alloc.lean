/-! MAKING: new cells stand behind the old ones -/
def ext (ad : Nat → Nat) (n0 : Nat) (δ : Nat → Nat) : Nat → Nat := fun k => if k < n0 then ad k else if k < 1000 then δ (k - n0) else ad k
theorem ext_ro {ad : Nat → Nat} {n0 : Nat} {δ : Nat → Nat} (hn : n0 ≤ 1000) {k : Nat} (hk : 1000 ≤ k) : ext ad n0 δ k = ad k := by
  unfold ext
  rw [if_neg (by omega), if_neg (by omega)]
def okV (L : Nat) : Value → Bool
  | .ref k => decide (k < L) || decide (1000 ≤ k)
  | _ => true
def okC (L : Nat) : mE → Bool
  | .inl _ => true
  | .inr q => q.2.all (okV L)
def okS (L : Nat) (w : List mE) (lv : List (Option Value)) (st : List Value) : Bool :=
  decide (w.length = L) && decide (L < 1000) && w.all (okC L) && lv.all (fun o => match o with | none => true | some v => okV L v) && st.all (okV L)
theorem eV_ok {L : Nat} {a b : Nat → Nat} (h : ∀ k, (k < L ∨ 1000 ≤ k) → a k = b k) {v : Value} (hv : okV L v = true) : eV a v = eV b v := by
  cases v with
  | ref k =>
    have : k < L ∨ 1000 ≤ k := by simpa [okV] using hv
    exact congrArg Value.ref (h k this)
  | _ => rfl
theorem eVs_ok {L : Nat} {a b : Nat → Nat} (h : ∀ k, (k < L ∨ 1000 ≤ k) → a k = b k) {vs : List Value} (hv : vs.all (okV L) = true) : vs.map (eV a) = vs.map (eV b) :=
  List.map_congr_left (fun v hm => eV_ok h (List.all_eq_true.mp hv v hm))
theorem eWf_ok {L : Nat} {cA : Nat → ClassId} {a b : Nat → Nat} (h : ∀ k, (k < L ∨ 1000 ≤ k) → a k = b k) : ∀ (w : List mE) (k : Nat), k + w.length ≤ L → w.all (okC L) = true → eWf cA a k w = eWf cA b k w
  | [], _, _, _ => rfl
  | c :: t, k, hl, hc => by
    rw [List.all_cons, Bool.and_eq_true] at hc
    rw [List.length_cons] at hl
    have e1 : eE cA a c = eE cA b c := by
      cases c with
      | inl q => rfl
      | inr q => exact congrArg (fun z => (Sum.inr (q.1, z) : va_E)) (eVs_ok h hc.1)
    rw [eWf, eWf, h k (Or.inl (by omega)), e1, eWf_ok h t (k + 1) (by omega) hc.2]
theorem eL_ok {L : Nat} {a b : Nat → Nat} (h : ∀ k, (k < L ∨ 1000 ≤ k) → a k = b k) : ∀ (lv : List (Option Value)) (i : Nat), lv.all (fun o => match o with | none => true | some v => okV L v) = true → eL a i lv = eL b i lv
  | [], _, _ => rfl
  | none :: t, i, hc => by
    rw [List.all_cons, Bool.and_eq_true] at hc
    rw [eL, eL, eL_ok h t (i + 1) hc.2]
  | some v :: t, i, hc => by
    rw [List.all_cons, Bool.and_eq_true] at hc
    rw [eL, eL, eV_ok h hc.1, eL_ok h t (i + 1) hc.2]
theorem eWf_app (cA : Nat → ClassId) (ad : Nat → Nat) (c : mE) : ∀ (w : List mE) (k : Nat), eWf cA ad k (w ++ [c]) = eWf cA ad k w ++ [(ad (k + w.length), eE cA ad c)]
  | [], k => rfl
  | a :: t, k => by
    rw [List.cons_append, eWf, eWf, eWf_app cA ad c t (k + 1), List.length_cons, show k + 1 + t.length = k + (t.length + 1) from by omega, List.cons_append]
/-- read-only places stand from 1000 on -/
def roHi (μ : KM) : Prop := (∀ q ∈ μ.2.2.2.2.2.1, 1000 ≤ q.1) ∧ ∀ z ∈ μ.2.2.2.2.2.2, 1000 ≤ z.2.2
theorem KX.moved {μ : KM} {κ : KC} {ω : KW} {A : Nat → Prop} {a b : Nat → Nat} (hr : roHi μ) (h : ∀ k, 1000 ≤ k → a k = b k) (X : KX μ κ ω A a) : KX μ κ ω A b := by
  obtain ⟨x1, x2, x3, x4, x5, x6, x7, x8, x9, x10, x11, x12⟩ := X
  refine ⟨x1, x2, x3, x4, x5, x6, x7, x8, x9, x10, fun q hq => ?_, fun z hz => ?_⟩
  · rw [← h q.1 (hr.1 q hq)]; exact x11 q hq
  · rw [← h z.2.2 (hr.2 z hz)]; exact x12 z hz
theorem roHi.nil {μ : KM} (h1 : μ.2.2.2.2.2.1 = []) (h2 : μ.2.2.2.2.2.2 = []) : roHi μ := by
  refine ⟨fun q hq => ?_, fun q hq => ?_⟩
  · rw [h1] at hq; cases hq
  · rw [h2] at hq; cases hq
def rsA (ω : KW) (A : Nat → Prop) (ad : Nat → Nat) (n0 : Nat) (w2 : List mE) : Array Value → State → Outcome → State → Prop := fun _ st o t =>
  (∃ δ : Nat → Nat, o = .returned none ∧ va_P (ω.1, ω.2.1) vwCl (eW ω.2.2 (ext ad n0 δ) w2) t.heap ∧ va_D A (eW ω.2.2 (ext ad n0 δ) w2)) ∧ va_F A st t
def QA (κ : KC) (ω : KW) (A : Nat → Prop) (ad : Nat → Nat) (n0 : Nat) (w2 : List mE) (mc ms : Nat) : State → Prop :=
  MQ κ.2.2.2.2.2.2.1 (rsA ω A ad n0 w2) κ.2.2.2.2.2.1 κ.2.2.2.1 mc ms A
def ConA (μ : KM) (av : List Value) (w w2 : List mE) : Prop :=
  ∀ (l : Launch) (ω : KW) (ad : Nat → Nat) (sz : Nat),
    Met l μ.1 (.code μ.1 μ.2.1 μ.2.2.1 μ.2.2.2.1 :: ALLW) μ.2.2.2.2.1
      (va_Pc (av.map (eV ad)) (fun U => U.heap.size = sz ∧ va_P (ω.1, ω.2.1) vwCl (eW ω.2.2 ad w) U.heap ∧ va_K (ω.1, ω.2.1) vwCl (mT ω.2.2) U ∧ va_D (fun _ => True) (eW ω.2.2 ad w) ∧ RO μ.2.2.2.2.2.1 μ.2.2.2.2.2.2 ad (va_A (eW ω.2.2 ad w) sz) U U.heap))
      (rsA ω (va_A (eW ω.2.2 ad w) sz) ad w.length w2) μ.2.2.2.2.1.cells μ.2.2.2.2.1.slots (va_A (eW ω.2.2 ad w) sz)
section ALLOC
variable {μ : KM} {κ : KC} {ω : KW} {A : Nat → Prop} {Q : State → Prop} {ad0 : Nat → Nat} {δ : Nat → Nat} {n0 ce sl pc : Nat} {w : List mE} {lv : List (Option Value)} {st : List Value}
theorem ConA.mk {av : List Value} {w2 : List mE} (hy : plainName μ.1.cls = true) (hn : (mA av).length ≤ μ.2.2.1) (hr : roHi μ) (hw : w.length ≤ 1000) (hok : okS w.length w (mA av ++ List.replicate (μ.2.2.1 - (mA av).length) none) [] = true)
    (h : ∀ (κ : KC) (ω : KW) (A : Nat → Prop) (ad δ : Nat → Nat), GG μ κ ω A (QA κ ω A ad w.length w2 μ.2.2.2.2.1.cells μ.2.2.2.2.1.slots) (ext ad w.length δ) 0 0 0 w (mA av ++ List.replicate (μ.2.2.1 - (mA av).length) none) []) : ConA μ av w w2 := by
  intro l ω ad sz
  refine Met.ofW (cc := μ.2.1) (maxL := μ.2.2.1) (ret := μ.2.2.2.1) hy rfl ?_
  intro p e s m args below meth c s₁ B hml hv
  obtain ⟨rfl, hsz, hP, hK, hD0, hR⟩ := hv
  have hts := atoms_spec (ws := .code μ.1 μ.2.1 μ.2.2.1 μ.2.2.2.1 :: ALLW) B.pre
  have hown : s.vm.findClass μ.1.cls = some m.cls := findClass_of_methodNamed B.named
  subst hsz
  have hD := hD0.self (sz := s.heap.size)
  have hle : (lg_sl (av.map (eV ad))).length ≤ μ.2.2.1 := by rw [lgs_len]; exact hn
  have hl := lv_entry (av.map (eV ad)) (n := μ.2.2.1) hle
  rw [lg_entry_eq]
  have hag : ∀ k, (k < w.length ∨ 1000 ≤ k) → ad k = ext ad w.length (fun _ => 0) k := by
    intro k hk
    unfold ext
    rcases hk with hk | hk
    · rw [if_pos hk]
    · rw [if_neg (by omega), if_neg (by omega)]
  simp only [okS, Bool.and_eq_true] at hok
  obtain ⟨⟨⟨⟨k1, k2⟩, k3⟩, k4⟩, k5⟩ := hok
  have X : KX μ (p, l, e, s, m, (av.map (eV ad)).toArray, below, meth, c) ω (va_A (eW ω.2.2 ad w) s.heap.size) ad := ⟨B.exec, B.bytes, hml, hown, fun w hw => hts w (List.mem_cons_of_mem _ hw), hK, fun q hq => Or.inr hq, B.notSynchronized, B.returns, (name_of_methodNamed B.named B.method).1, hR⟩
  refine h (p, l, e, s, m, (av.map (eV ad)).toArray, below, meth, c) ω (va_A (eW ω.2.2 ad w) s.heap.size) ad (fun _ => 0) (X.moved hr (fun k hk => hag k (Or.inr hk))) s.heap [] _ ?_ ?_ va_S.rf ?_
  · show va_P _ _ (eWf ω.2.2 (ext ad w.length (fun _ => 0)) 0 w) _
    rw [← eWf_ok hag w 0 (by omega) k3]; exact hP
  · show va_D _ (eWf ω.2.2 (ext ad w.length (fun _ => 0)) 0 w)
    rw [← eWf_ok hag w 0 (by omega) k3]; exact hD
  · rw [← eL_ok hag _ 0 k4]; exact lv_less hl (mA_has ad _ av 0)
theorem ext_up {L : Nat} (hL : n0 ≤ L) (q : Nat) : ∀ k, (k < L ∨ 1000 ≤ k) → ext ad0 n0 δ k = ext ad0 n0 (fun j => if j = L - n0 then q else δ j) k := by
  intro k hk
  unfold ext
  by_cases h1 : k < n0
  · rw [if_pos h1, if_pos h1]
  · rw [if_neg h1, if_neg h1]
    by_cases h2 : k < 1000
    · rw [if_pos h2, if_pos h2]
      show δ (k - n0) = if k - n0 = L - n0 then q else δ (k - n0)
      rw [if_neg (by omega)]
    · rw [if_neg h2, if_neg h2]
theorem ext_at {L : Nat} (hL : n0 ≤ L) (h : L < 1000) (q : Nat) : ext ad0 n0 (fun j => if j = L - n0 then q else δ j) L = q := by
  unfold ext
  rw [if_neg (by omega), if_pos h]
  show (if L - n0 = L - n0 then q else δ (L - n0)) = q
  rw [if_pos rfl]
theorem G_fresh {L : Nat} (hr : roHi μ) (hn : n0 ≤ L) (hok : okS L w lv st = true) {c0 : mE} (hc0 : ∀ a b : Nat → Nat, eE ω.2.2 a c0 = eE ω.2.2 b c0) {pc2 ce2 sl2 : Nat}
    (kk : ∀ δ2 : Nat → Nat, GG μ κ ω A Q (ext ad0 n0 δ2) ce2 sl2 pc2 (w ++ [c0]) lv (.ref L :: st)) (X : KX μ κ ω A (ext ad0 n0 δ)) {H1 : Heap} {locs : List Loc} {ls : Array Slot} {q : Nat}
    (hP : va_P (ω.1, ω.2.1) vwCl (eW ω.2.2 (ext ad0 n0 δ) w ++ [(q, eE ω.2.2 ad0 c0)]) H1) (hD : va_D A (eW ω.2.2 (ext ad0 n0 δ) w ++ [(q, eE ω.2.2 ad0 c0)])) (hS : va_S A κ.2.2.2.1.heap H1 locs) (hl : lv_has ls μ.2.2.1 (eL (ext ad0 n0 δ) 0 lv)) :
    W κ.1 κ.2.1 κ.2.2.1 μ.2.2.2.2.1 κ.2.2.2.1 κ.2.2.2.2.1 κ.2.2.2.2.2.1 κ.2.2.2.2.2.2.1 κ.2.2.2.2.2.2.2.1 κ.2.2.2.2.2.2.2.2 H1 locs ce2 sl2 Q (F0 κ.2.2.2.2.1 pc2 ls (.ref q :: st.map (eV (ext ad0 n0 δ)))) := by
  simp only [okS, Bool.and_eq_true, decide_eq_true_eq] at hok
  obtain ⟨⟨⟨⟨k1, k2⟩, k3⟩, k4⟩, k5⟩ := hok
  have hag := ext_up (ad0 := ad0) (δ := δ) hn q
  have hat := ext_at (ad0 := ad0) (δ := δ) hn k2 q
  have e1 : eW ω.2.2 (ext ad0 n0 (fun j => if j = L - n0 then q else δ j)) (w ++ [c0]) = eW ω.2.2 (ext ad0 n0 δ) w ++ [(q, eE ω.2.2 ad0 c0)] := by
    rw [eW, eWf_app, Nat.zero_add, k1, hat, hc0 _ ad0, eW, eWf_ok hag w 0 (by omega) k3]
  have := kk (fun j => if j = L - n0 then q else δ j) (X.moved hr (fun k hk => hag k (Or.inr hk))) H1 locs ls (by rw [e1]; exact hP) (by rw [e1]; exact hD) hS (by rw [← eL_ok hag _ 0 k4]; exact hl)
  rw [List.map_cons, ← eVs_ok hag k5] at this
  rw [show eV (ext ad0 n0 (fun j => if j = L - n0 then q else δ j)) (.ref L) = .ref q from congrArg Value.ref hat] at this
  exact this
theorem G_newarr {t : Nat} {aty : ArrayType} {ty : FieldType} {a0 : vp_A} {n : Int32} {L N : Nat} (d : decode μ.2.1 pc = .ok (.newarray aty, 2)) (hty : newarray.typeOf aty = ty) (hw : Cond.arrayClass (newarray.typeOf aty) ∈ ALLW) (ht : (mT ω.2.2)[t]? = some (ω.2.2 t, ty)) (hp : ∀ (U : State) (c1 c2 : ClassId), va_RA U c1 ty → va_RA U c2 ty → c1 = c2)
    (ha : ∀ cA : ClassId, vp_cell cA a0 = arrV cA N (fun _ => defaultValue ty)) (hn : ¬ n < 0) (hN : n.toNatClampNeg = N) (hb : N * componentBytes ty ≤ 536870912) (hce : ce + 1 ≤ μ.2.2.2.2.1.cells) (hsl : sl + N ≤ μ.2.2.2.2.1.slots) (hr : roHi μ) (hL : n0 ≤ L) (hok : okS L w lv st = true)
    (kk : ∀ δ2 : Nat → Nat, GG μ κ ω A Q (ext ad0 n0 δ2) (ce + 1) (sl + N) (pc + 2) (w ++ [.inl (t, a0)]) lv (.ref L :: st)) : GG μ κ ω A Q (ext ad0 n0 δ) ce sl pc w lv (.int n :: st) := by
  intro X H locs ls hP hD hS hl
  refine va_newa X.1 X.2.1 (X.2.2.2.2.1 _ hw) hty X.2.2.2.2.2.1 hP hD hS X.2.2.2.2.2.2.1 ha hn hN hb hce hsl d (fun q cA H1 hK1 hP1 hD1 hS1 => ?_)
  have h3 := (hK1.2 3 (cA, ty) rfl).2
  have h4 := (hK1.2 t (ω.2.2 t, ty) (by
    have hlt : t < (mT ω.2.2).length := by
      rw [List.getElem?_eq_some_iff] at ht
      exact ht.1
    rw [List.getElem?_append_left hlt]; exact ht)).2
  have hc : cA = ω.2.2 t := hp _ _ _ h3 h4
  subst hc
  exact G_fresh (c0 := .inl (t, a0)) hr hL hok (fun _ _ => rfl) kk X hP1 hD1 hS1 hl
theorem ra_int (U : State) (c1 c2 : ClassId) (h1 : va_RA U c1 .int) (h2 : va_RA U c2 .int) : c1 = c2 := Option.some.inj (Eq.trans (Eq.symm h1) h2)
theorem ra_long (U : State) (c1 c2 : ClassId) (h1 : va_RA U c1 .long) (h2 : va_RA U c2 .long) : c1 = c2 := Option.some.inj (Eq.trans (Eq.symm h1) h2)
theorem ra_bool (U : State) (c1 c2 : ClassId) (h1 : va_RA U c1 .boolean) (h2 : va_RA U c2 .boolean) : c1 = c2 := Option.some.inj (Eq.trans (Eq.symm h1) h2)
/-- a new object: its fields as the machine lays them -/
def NEW (own : String) (idx ci : Nat) (fs : List Value) : Prop :=
  ∃ (C : String) (T : u_T) (N : Nat) (ty0 : Nat → FieldType), vwCl[ci]? = some (C, T, N) ∧ fs.length = N ∧ (∀ w ∈ u_ws C T N, w ∈ ALLW) ∧ (∀ k, k < N → parseFieldDescriptor (T k).2.2.1 = some (ty0 k)) ∧ Cond.classLink own idx C ∈ ALLW ∧ Cond.instantiable C N ∈ ALLW ∧ Cond.initialized C ∈ ALLW ∧ ∀ j, j < N → defaultValue (ty0 j) = vp_V fs j
theorem G_new {idx ci L : Nat} {fs : List Value} (F : NEW μ.1.cls idx ci fs) (d : decode μ.2.1 pc = .ok (.new idx, 3)) (hfs : ∀ a : Nat → Nat, fs.map (eV a) = fs) (hce : ce + 1 ≤ μ.2.2.2.2.1.cells) (hsl : sl + fs.length ≤ μ.2.2.2.2.1.slots) (hr : roHi μ) (hL : n0 ≤ L) (hok : okS L w lv st = true)
    (kk : ∀ δ2 : Nat → Nat, GG μ κ ω A Q (ext ad0 n0 δ2) (ce + 1) (sl + fs.length) (pc + 3) (w ++ [.inr (ci, fs)]) lv (.ref L :: st)) : GG μ κ ω A Q (ext ad0 n0 δ) ce sl pc w lv st := by
  intro X H locs ls hP hD hS hl
  obtain ⟨C, T, N, ty0, f1, f2, f3, f4, f5, f6, f7, f8⟩ := F
  subst f2
  refine va_new (fs := fs) X.1 X.2.1 X.2.2.2.2.1 f3 ty0 f4 X.2.2.2.1 (X.2.2.2.2.1 _ f5) (X.2.2.2.2.1 _ f6) (X.2.2.2.2.1 _ f7) X.2.2.2.2.2.1 hP hD hS X.2.2.2.2.2.2.1 f1 f8 hce hsl d (fun q H1 hP1 hD1 hS1 => ?_)
  refine G_fresh (c0 := .inr (ci, fs)) hr hL hok (fun a b => by show Sum.inr (ci, fs.map (eV a)) = (Sum.inr (ci, fs.map (eV b)) : va_E); rw [hfs a, hfs b]) kk X ?_ ?_ hS1 hl
  · show va_P _ _ (_ ++ [(q, .inr (ci, fs.map (eV ad0)))]) _
    rw [hfs]; exact hP1
  · show va_D _ (_ ++ [(q, .inr (ci, fs.map (eV ad0)))])
    rw [hfs]; exact hD1
end ALLOC
section ALLOC2
variable {μ : KM} {κ : KC} {ω : KW} {A : Nat → Prop} {Q : State → Prop} {ad : Nat → Nat} {ce sl pc : Nat} {w : List mE} {lv : List (Option Value)} {st : List Value}
theorem G_objInit {idx q : Nat} (d : decode μ.2.1 pc = .ok (.invokespecial idx, 3)) (h1 : Cond.methodLink μ.1.cls idx Lib.objectInit ∈ ALLW) (h2 : Cond.instanceMethod Lib.objectInit ∈ ALLW) (h3 : Cond.code Lib.objectInit ⟨#[0xb1]⟩ 1 none ∈ ALLW) (hfr : 1 ≤ μ.2.2.2.2.1.frames) (hlo : (st.map fun v => v.category).sum + 12 ≤ μ.2.2.2.2.1.locals)
    (k : GG μ κ ω A Q ad ce sl (pc + 3) w lv st) : GG μ κ ω A Q ad ce sl pc w lv (.ref q :: st) := by
  intro X H locs ls hP hD hS hl
  refine W.objInit X.1 X.2.1 X.2.2.2.1 (X.2.2.2.2.1 _ h1) (X.2.2.2.2.1 _ h2) (X.2.2.2.2.1 _ h3) rfl (by rw [X.2.2.1]; exact hl.1) rfl d hfr ?_ ?_
  · rw [cat_map, show 2 * (F0 κ.2.2.2.2.1 pc ls (List.map (eV ad) (.ref q :: st))).monitorRoom = 0 from rfl, Nat.zero_add]; exact hlo
  · exact W.eq rfl (k X H locs ls hP hD hS hl)
theorem G_putF {q ci k idx : Nat} {fs : List Value} {ty : FieldType} {v : Value} {w2 : List mE} (F : FLD μ.1.cls idx ci k ty true) (hin : μ.1.name = "<init>") (hdecl : ∀ C T N, vwCl[ci]? = some (C, T, N) → (T k).1 = μ.1.cls) (d : decode μ.2.1 pc = .ok (.putfield idx, 3)) (hc : w[q]? = some (.inr (ci, fs))) (hn : narrow ty (eV ad v) = eV ad v) (hf : fits ty (eV ad v) = true) (hk : k < fs.length) (hw : w.set q (.inr (ci, fs.set k v)) = w2) (kk : GG μ κ ω A Q ad ce sl (pc + 3) w2 lv st) : GG μ κ ω A Q ad ce sl pc w lv (v :: .ref q :: st) := by
  intro X H locs ls hP hD hS hl
  obtain ⟨C, T, N, ty0, f1, f2, f3, f4, f5, f6, f7, f8⟩ := F
  subst hw
  have hmap : (fs.map (eV ad)).set k (eV ad v) = (fs.set k v).map (eV ad) := by rw [List.map_set]
  refine va_putF (v := eV ad v) (fs := fs.map (eV ad)) X.1 X.2.1 X.2.2.2.2.1 f3 ty0 f5 f7 X.2.2.2.1 X.2.2.2.2.2.1 hP hD hS q (eW_at hc) f1 k f2 (X.2.2.2.2.1 _ f4) (fun _ h => h) f8 (X.2.2.2.2.2.2.2.2.2.1.trans hin) (hdecl C T N f1) (ty := ty) (by rw [f5 k f2, f6]) hn hf (by rw [List.length_map]; exact hk) d (fun H1 locs1 hP1 hD1 hS1 => kk X H1 locs1 ls ?_ ?_ hS1 hl)
  · rw [← eW_set]; rw [hmap] at hP1; exact hP1
  · rw [← eW_set]; rw [hmap] at hD1; exact hD1
theorem G_returnA {ad0 δ : Nat → Nat} {n0 : Nat} (d : decode μ.2.1 pc = .ok (.return_, 1)) (hr : μ.2.2.2.1 = none) (h1 : ce ≤ μ.2.2.2.2.1.cells) (h2 : sl ≤ μ.2.2.2.2.1.slots) : GG μ κ ω A (QA κ ω A ad0 n0 w μ.2.2.2.2.1.cells μ.2.2.2.2.1.slots) (ext ad0 n0 δ) ce sl pc w lv [] := by
  intro X H locs ls hP hD hS hl
  refine W.widen h1 h2 ?_
  exact W.vret X.1 X.2.1 (X.2.2.2.2.2.2.2.2.1.trans hr) (fun t ht hW => ⟨⟨δ, rfl, by rw [ht]; exact hP, hD⟩, hS.F ht⟩) hS.2.2 d X.2.2.2.2.2.2.2.1
end ALLOC2
def jn (n0 n : Nat) (δ δc : Nat → Nat) : Nat → Nat := fun j => if j + n0 < n then δ j else δc (j + n0 - n)
theorem jn_up {ad0 δ δc : Nat → Nat} {n0 n : Nat} (hn : n0 ≤ n) : ∀ k, (k < n ∨ 1000 ≤ k) → ext ad0 n0 δ k = ext ad0 n0 (jn n0 n δ δc) k := by
  intro k hk
  unfold ext
  by_cases h1 : k < n0
  · rw [if_pos h1, if_pos h1]
  · rw [if_neg h1, if_neg h1]
    by_cases h2 : k < 1000
    · rw [if_pos h2, if_pos h2]
      show δ (k - n0) = if k - n0 + n0 < n then δ (k - n0) else δc (k - n0 + n0 - n)
      rw [if_pos (by omega)]
    · rw [if_neg h2, if_neg h2]
def CWi (μ : KM) (n : Nat) : Prop := CWm μ n ∧ Cond.instanceMethod μ.1 ∈ ALLW ∧ μ.1.name = "<init>" ∧ μ.2.2.2.1 = none
section CALLI
variable {μ μ2 : KM} {κ : KC} {ω : KW} {A : Nat → Prop} {Q : State → Prop} {ad0 δ : Nat → Nat} {n0 ce sl pc : Nat} {w wc wc2 w2 : List mE} {lv : List (Option Value)} {st rest : List Value} {As : List Value}
theorem G_callI {n idx : Nat} (is vs isR pm : List Nat) (hcon : ConA μ2 (.ref 0 :: As) wc wc2) (hw : CWi μ2 n) (hlk : Cond.methodLink μ.1.cls idx μ2.1 ∈ ALLW) (d : decode μ.2.1 pc = .ok (.invokespecial idx, 3)) (hn : As.length = n)
    (hR : μ2.2.2.2.2.1.frames + 1 ≤ μ.2.2.2.2.1.frames ∧ 8 + (μ2.2.2.1 + 11) + μ2.2.2.2.2.1.locals ≤ μ.2.2.2.2.1.locals) (hz : ce + μ2.2.2.2.2.1.cells ≤ μ.2.2.2.2.1.cells ∧ sl + μ2.2.2.2.2.1.slots ≤ μ.2.2.2.2.1.slots)
    (hr : roHi μ) (hr2 : μ2.2.2.2.2.2.1 = [] ∧ μ2.2.2.2.2.2.2 = []) (hn0 : n0 ≤ w.length)
    (f1 : pk (eW ω.2.2 (ext ad0 n0 δ) w) is = eW ω.2.2 (rh (ext ad0 n0 δ) is vs) wc)
    (fb : (is.all (fun i => decide (i < w.length)) && isR.all (fun i => decide (i < w.length)) && va_nd isR && isR.all (fun i => decide (i ∉ is)) && va_nd pm && va_nd is && pm.all (fun i => decide (i < isR.length + wc2.length))) = true)
    (f7 : ∀ δc : Nat → Nat, pk (pk (eW ω.2.2 (ext ad0 n0 δ) w) isR ++ eW ω.2.2 (ext (rh (ext ad0 n0 δ) is vs) wc.length δc) wc2) pm = eW ω.2.2 (ext ad0 n0 (jn n0 w.length δ δc)) w2)
    (hst : st.map (eV (ext ad0 n0 δ)) = (As.map (eV (rh (ext ad0 n0 δ) is vs))).reverse ++ .ref (rh (ext ad0 n0 δ) is vs 0) :: rest.map (eV (ext ad0 n0 δ))) (hcat : (rest.map fun v => v.category).sum ≤ 8) (hok : okS w.length w lv rest = true)
    (kk : ∀ δ2 : Nat → Nat, GG μ κ ω A Q (ext ad0 n0 δ2) (ce + μ2.2.2.2.2.1.cells) (sl + μ2.2.2.2.2.1.slots) (pc + 3) w2 lv rest) : GG μ κ ω A Q (ext ad0 n0 δ) ce sl pc w lv st := by
  intro X H locs ls hP hD hS hl
  have Fx : Fit ω (ext ad0 n0 δ) w wc wc w is vs isR pm ∨ True := Or.inr trivial
  simp only [Bool.and_eq_true] at fb
  obtain ⟨⟨⟨⟨⟨⟨b1, b2⟩, b3⟩, b4⟩, b5⟩, b6⟩, b7⟩ := fb
  have hin : ∀ js : List Nat, js.all (fun i => decide (i < w.length)) = true → js.all (fun i => decide (i < (eW ω.2.2 (ext ad0 n0 δ) w).length)) = true := fun js h => by rw [eWf_len]; exact h
  have hc1 : is.map (fun i => (eW ω.2.2 (ext ad0 n0 δ) w)[i]?) = (eW ω.2.2 (rh (ext ad0 n0 δ) is vs) wc).map some := by rw [← f1]; exact pk_ok _ _ (hin is b1)
  have hc2 := pk_ok (eW ω.2.2 (ext ad0 n0 δ) w) isR (hin isR b2)
  have hfree := va_free (wc := eW ω.2.2 (rh (ext ad0 n0 δ) is vs) wc) hD hS X.2.2.2.2.2.2.1 is hc1
  have hPc : va_P (ω.1, ω.2.1) vwCl (eW ω.2.2 (rh (ext ad0 n0 δ) is vs) wc) H := hP.sub is f1
  have hDc := (hD.sub (ws' := eW ω.2.2 (rh (ext ad0 n0 δ) is vs) wc) is b6 hc1).weaken (B := fun _ => True) (fun _ _ _ _ => trivial)
  have hro : ∀ (B : Nat → Prop) (U : State) (H9 : Heap), RO μ2.2.2.2.2.2.1 μ2.2.2.2.2.2.2 (rh (ext ad0 n0 δ) is vs) B U H9 := by
    intro B U H9
    rw [hr2.1, hr2.2]
    exact ⟨fun q hq => absurd hq List.not_mem_nil, fun q hq => absurd hq List.not_mem_nil⟩
  have hrun := va_runI (cells := ce) (slots := sl) (locs := locs) (g := F0 κ.2.2.2.2.1 pc ls (st.map (eV (ext ad0 n0 δ)))) (As := As.map (eV (rh (ext ad0 n0 δ) is vs))) (b := rh (ext ad0 n0 δ) is vs 0) (rest := rest.map (eV (ext ad0 n0 δ))) (H := H) (below := κ.2.2.2.2.2.2.1) (meth := κ.2.2.2.2.2.2.2.1) (e := κ.2.2.1) ⟨X.1, X.2.1, X.2.2.1, X.2.2.2.1, X.2.2.2.2.1⟩ (hcon κ.2.1 ω (rh (ext ad0 n0 δ) is vs) H.size)
    (cwI n X.2.2.2.2.1 (all_in (fun w hw2 => by
      rcases List.mem_cons.mp hw2 with h | h
      · rw [h]; exact hw.1.1
      · exact h)) (by rw [hw.2.2.2]) rfl rfl (X.2.2.2.2.1 _ hw.1.2.1) (X.2.2.2.2.1 _ hlk) (X.2.2.2.2.1 _ hw.2.1) hw.2.2.1 hw.1.2.2 hR)
    ⟨fun a U g mk q => by obtain ⟨q0, q1, qP, qK, qD, qR⟩ := q; exact ⟨q0, q1, qP, va_K.moved (u := U) (U := U.calling g mk a) (Vm.Alike.refl U.vm) qK, qD, RO.moved (u := U) (U := U.calling g mk a) (Vm.Alike.refl U.vm) qR⟩, fun U hU hW => ⟨rfl, by rw [hU], by rw [hU]; exact hPc, va_K.moved hW.alike X.2.2.2.2.2.1, hDc, hro _ _ _⟩⟩
    rfl (by rw [List.length_map]; exact hn) hl.1 hst (lv_room (by rw [cat_map]; exact hcat)) d hz
  simp only [okS, Bool.and_eq_true, decide_eq_true_eq] at hok
  obtain ⟨⟨⟨⟨k1, k2⟩, k3⟩, k4⟩, k5⟩ := hok
  intro T hT Y
  obtain ⟨v, st₀, t, T', L, h0, X', hL, e1, e2, ⟨⟨δc, hv, hP1, hD1⟩, hz2, hk⟩, stp⟩ := hrun T hT Y
  have hv2 : v = none := by injection hv
  subst hv2
  rw [h0] at hz2 hk
  obtain ⟨hP2, hD2⟩ := va_join hP hD is isR hc1 hc2 b3 (fun i hi => by simpa using (List.all_eq_true.mp b4) i hi) (H1 := t.heap) hk hfree hP1 hD1
  have hlen : (pk (eW ω.2.2 (ext ad0 n0 δ) w) isR ++ eW ω.2.2 (ext (rh (ext ad0 n0 δ) is vs) wc.length δc) wc2).length = isR.length + wc2.length := by
    have h := congrArg List.length hc2
    rw [List.length_map, List.length_map] at h
    rw [List.length_append, eWf_len, ← h]
  have hc3 := pk_ok (pk (eW ω.2.2 (ext ad0 n0 δ) w) isR ++ eW ω.2.2 (ext (rh (ext ad0 n0 δ) is vs) wc.length δc) wc2) pm (by rw [hlen]; exact b7)
  rw [f7 δc] at hc3
  have hP3 := hP2.sub (ws' := eW ω.2.2 (ext ad0 n0 (jn n0 w.length δ δc)) w2) pm (f7 δc)
  have hD3 := hD2.sub (ws' := eW ω.2.2 (ext ad0 n0 (jn n0 w.length δ δc)) w2) pm b5 hc3
  have hag := jn_up (ad0 := ad0) (δ := δ) (δc := δc) hn0
  have h9 := kk (jn n0 w.length δ δc) (X.moved hr (fun k hk => hag k (Or.inr hk))) T'.heap (locs ++ L) ls (by rw [e1]; exact hP3) hD3
    ⟨Nat.le_trans hS.1 (by rw [e1]; exact hz2), fun q h1 h2 => by rw [e1, hk q (Nat.lt_of_lt_of_le h1 hS.1) (fun z => h2 (hfree q z))]; exact hS.2.1 q h1 h2, fun q hq => by
      rcases List.mem_append.mp hq with h | h
      · exact hS.2.2 q h
      · exact hfree _ (hL q h)⟩ (by rw [← eL_ok hag _ 0 k4]; exact hl)
  rw [← eVs_ok hag k5] at h9
  obtain ⟨t2, a1, b1⟩ := h9 T' rfl X'
  exact ⟨t2, stp t2 a1, b1⟩
end CALLI
theorem lel {a b a' b' : Nat} (ha : a = a') (hb : b = b') (h : Nat.ble a' b' = true) : a ≤ b := by rw [ha, hb]; exact Nat.le_of_ble_eq_true h
