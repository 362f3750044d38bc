/-! THE JUDGEMENT GG: from a state of the small machine the real one comes to Q -/
/-- a method: name, bytes, number of places, what it returns, its room, read-only arrays (place, length, content), statics (owner, name, place) -/
abbrev KM : Type := MethodName × ByteArray × Nat × Option FieldType × Room × List (Nat × Nat × (Nat → Int32)) × List (String × String × Nat)
abbrev KC : Type := Program × Launch × Env × State × MethodId × Array Value × List Frame × Method × Code
abbrev KW : Type := (Nat → ClassId) × (Nat → Nat → Nat) × (Nat → ClassId)
abbrev mT (cA : Nat → ClassId) : List (ClassId × FieldType) := [(cA 0, .int), (cA 1, .long), (cA 2, .boolean)]
def RO (ro : List (Nat × Nat × (Nat → Int32))) (zs : List (String × String × Nat)) (ad : Nat → Nat) (A : Nat → Prop) (U : State) (H : Heap) : Prop :=
  (∀ q ∈ ro, va_T .int (ad q.1) q.2.1 (fun j => .int (q.2.2 j)) A U H) ∧ ∀ z ∈ zs, va_Z z.1 z.2.1 "[I" (.ref (ad z.2.2)) A U H
def KX (μ : KM) (κ : KC) (ω : KW) (A : Nat → Prop) (ad : Nat → Nat) : Prop :=
  κ.1.tables.exec = Jvm.exec ∧ κ.2.2.2.2.2.2.2.2.code = μ.2.1 ∧ κ.2.2.2.2.2.2.2.2.maxLocals = μ.2.2.1 ∧ κ.2.2.2.1.vm.findClass μ.1.cls = some κ.2.2.2.2.1.cls ∧ (∀ w ∈ ALLW, w.before κ.2.2.2.2.2.1 κ.2.2.2.1 = true) ∧ va_K (ω.1, ω.2.1) vwCl (mT ω.2.2) κ.2.2.2.1 ∧ (∀ q, κ.2.2.2.1.heap.size ≤ q → A q) ∧ κ.2.2.2.2.2.2.2.1.locks = false ∧ κ.2.2.2.2.2.2.2.1.sig.returnType = μ.2.2.2.1 ∧ κ.2.2.2.2.2.2.2.1.name = μ.1.name ∧ RO μ.2.2.2.2.2.1 μ.2.2.2.2.2.2 ad A κ.2.2.2.1 κ.2.2.2.1.heap
def GG (μ : KM) (κ : KC) (ω : KW) (A : Nat → Prop) (Q : State → Prop) (ad : Nat → Nat) (ce sl pc : Nat) (w : List mE) (lv : List (Option Value)) (st : List Value) : Prop :=
  KX μ κ ω A ad → ∀ (H : Heap) (locs : List Loc) (ls : Array Slot), va_P (ω.1, ω.2.1) vwCl (eW ω.2.2 ad w) H → va_D A (eW ω.2.2 ad w) → va_S A κ.2.2.2.1.heap H locs → lv_has ls μ.2.2.1 (eL ad 0 lv) →
    W κ.1 κ.2.1 κ.2.2.1 μ.2.2.2.2.1 κ.2.2.2.1 κ.2.2.2.2.1 κ.2.2.2.2.2.1 κ.2.2.2.2.2.2.1 κ.2.2.2.2.2.2.2.1 κ.2.2.2.2.2.2.2.2 H locs ce sl Q (F0 κ.2.2.2.2.1 pc ls (st.map (eV ad)))
section GGS
variable {μ : KM} {κ : KC} {ω : KW} {A : Nat → Prop} {Q : State → Prop} {ad : Nat → Nat} {ce sl pc : Nat} {w : List mE} {lv : List (Option Value)} {st : List Value}
/-- a row that leaves the world and the places alone -/
theorem GG.mv {pc2 : Nat} {st2 : List Value} (k : GG μ κ ω A Q ad ce sl pc2 w lv st2) (h : KX μ κ ω A ad → ∀ (H : Heap) (locs : List Loc) (ls : Array Slot), (∀ (i : Nat) (v : Value), lv[i]? = some (some v) → ls[i]? = some (Slot.val (eV ad v))) →
    W κ.1 κ.2.1 κ.2.2.1 μ.2.2.2.2.1 κ.2.2.2.1 κ.2.2.2.2.1 κ.2.2.2.2.2.1 κ.2.2.2.2.2.2.1 κ.2.2.2.2.2.2.2.1 κ.2.2.2.2.2.2.2.2 H locs ce sl Q (F0 κ.2.2.2.2.1 pc2 ls (st2.map (eV ad))) →
    W κ.1 κ.2.1 κ.2.2.1 μ.2.2.2.2.1 κ.2.2.2.1 κ.2.2.2.2.1 κ.2.2.2.2.2.1 κ.2.2.2.2.2.2.1 κ.2.2.2.2.2.2.2.1 κ.2.2.2.2.2.2.2.2 H locs ce sl Q (F0 κ.2.2.2.2.1 pc ls (st.map (eV ad)))) : GG μ κ ω A Q ad ce sl pc w lv st :=
  fun X H locs ls hP hD hS hl => h X H locs ls (fun _ _ hv => eL_at hl hv) (k X H locs ls hP hD hS hl)
theorem GG.sb {lv2 : List (Option Value)} (k : GG μ κ ω A Q ad ce sl pc w lv2 st) (h : lvSub lv lv2) : GG μ κ ω A Q ad ce sl pc w lv st := by
  intro X H locs ls hP hD hS hl
  refine k X H locs ls hP hD hS (lv_less hl (fun q hq => ?_))
  obtain ⟨j, u, hj, e⟩ := (eL_mem ad q _ 0).mp hq
  exact (eL_mem ad q _ 0).mpr ⟨j, u, lvSub_get _ _ h j u hj, e⟩
-- constants and moves
theorem G_iconst {n : Int} (v : Int32) (d : decode μ.2.1 pc = .ok (.iconst n, 1)) (hv : Int32.ofInt n = v) (k : GG μ κ ω A Q ad ce sl (pc + 1) w lv (.int v :: st)) : GG μ κ ω A Q ad ce sl pc w lv st := k.mv fun X H locs ls _ k => lv_iconst X.1 X.2.1 d hv k
theorem G_bipush {n : Int} (v : Int32) (d : decode μ.2.1 pc = .ok (.bipush n, 2)) (hv : (Int8.ofInt n).toInt32 = v) (k : GG μ κ ω A Q ad ce sl (pc + 2) w lv (.int v :: st)) : GG μ κ ω A Q ad ce sl pc w lv st := k.mv fun X H locs ls _ k => lv_bipush X.1 X.2.1 d hv k
theorem G_sipush {n : Int} (v : Int32) (d : decode μ.2.1 pc = .ok (.sipush n, 3)) (hv : (Int16.ofInt n).toInt32 = v) (k : GG μ κ ω A Q ad ce sl (pc + 3) w lv (.int v :: st)) : GG μ κ ω A Q ad ce sl pc w lv st := k.mv fun X H locs ls _ k => lv_sipush X.1 X.2.1 d hv k
theorem G_lconst {n : Fin 2} (v : Int64) (d : decode μ.2.1 pc = .ok (.lconst n, 1)) (hv : Int64.ofNat (n : Nat) = v) (k : GG μ κ ω A Q ad ce sl (pc + 1) w lv (.long v :: st)) : GG μ κ ω A Q ad ce sl pc w lv st := k.mv fun X H locs ls _ k => lv_lconst X.1 X.2.1 d hv k
theorem G_ldc {i : Nat} {v : Int32} (d : decode μ.2.1 pc = .ok (.ldc i, 2)) (hc : Cond.constant μ.1.cls i v ∈ ALLW) (k : GG μ κ ω A Q ad ce sl (pc + 2) w lv (.int v :: st)) : GG μ κ ω A Q ad ce sl pc w lv st := k.mv fun X H locs ls _ k => lv_ldc X.1 X.2.1 X.2.2.2.1 (X.2.2.2.2.1 _ hc) d k
theorem G_ldc2 {i : Nat} {v : Int64} (d : decode μ.2.1 pc = .ok (.ldc2_w i, 3)) (hc : Cond.constantLong μ.1.cls i v ∈ ALLW) (k : GG μ κ ω A Q ad ce sl (pc + 3) w lv (.long v :: st)) : GG μ κ ω A Q ad ce sl pc w lv st := k.mv fun X H locs ls _ k => lv_ldc2 X.1 X.2.1 X.2.2.2.1 (X.2.2.2.2.1 _ hc) d k
theorem G_iload_n {n : Fin 4} {i : Nat} {x : Int32} (d : decode μ.2.1 pc = .ok (.iload_n n, 1)) (hi : (n : Nat) = i) (hv : lv[i]? = some (some (.int x))) (k : GG μ κ ω A Q ad ce sl (pc + 1) w lv (.int x :: st)) : GG μ κ ω A Q ad ce sl pc w lv st := k.mv fun X H locs ls hl k => lv_iload_n X.1 X.2.1 d hi (hl _ _ hv) k
theorem G_iload {i : Nat} {x : Int32} (d : decode μ.2.1 pc = .ok (.iload i, 2)) (hv : lv[i]? = some (some (.int x))) (k : GG μ κ ω A Q ad ce sl (pc + 2) w lv (.int x :: st)) : GG μ κ ω A Q ad ce sl pc w lv st := k.mv fun X H locs ls hl k => lv_iload X.1 X.2.1 d (hl _ _ hv) k
theorem G_lload_n {n : Fin 4} {i : Nat} {x : Int64} (d : decode μ.2.1 pc = .ok (.lload_n n, 1)) (hi : (n : Nat) = i) (hv : lv[i]? = some (some (.long x))) (k : GG μ κ ω A Q ad ce sl (pc + 1) w lv (.long x :: st)) : GG μ κ ω A Q ad ce sl pc w lv st := k.mv fun X H locs ls hl k => lv_lload_n X.1 X.2.1 d hi (hl _ _ hv) k
theorem G_lload {i : Nat} {x : Int64} (d : decode μ.2.1 pc = .ok (.lload i, 2)) (hv : lv[i]? = some (some (.long x))) (k : GG μ κ ω A Q ad ce sl (pc + 2) w lv (.long x :: st)) : GG μ κ ω A Q ad ce sl pc w lv st := k.mv fun X H locs ls hl k => lv_lload X.1 X.2.1 d (hl _ _ hv) k
theorem G_aload_n {n : Fin 4} {i x : Nat} (d : decode μ.2.1 pc = .ok (.aload_n n, 1)) (hi : (n : Nat) = i) (hv : lv[i]? = some (some (.ref x))) (k : GG μ κ ω A Q ad ce sl (pc + 1) w lv (.ref x :: st)) : GG μ κ ω A Q ad ce sl pc w lv st := k.mv fun X H locs ls hl k => lv_aload_n X.1 X.2.1 d hi (hl _ _ hv) k
theorem G_istore_n {n : Fin 4} {i : Nat} {x : Int32} (d : decode μ.2.1 pc = .ok (.istore_n n, 1)) (hi : (n : Nat) = i) (hn : i < μ.2.2.1) (k : GG μ κ ω A Q ad ce sl (pc + 1) w (st1 lv i (.int x)) st) : GG μ κ ω A Q ad ce sl pc w lv (.int x :: st) := by
  intro X H locs ls hP hD hS hl
  exact lv_istore_n X.1 X.2.1 d hi hl hn rfl (fun ls' hl' => k X H locs ls' hP hD hS (st1_has hl'))
theorem G_istore {i : Nat} {x : Int32} (d : decode μ.2.1 pc = .ok (.istore i, 2)) (hn : i < μ.2.2.1) (k : GG μ κ ω A Q ad ce sl (pc + 2) w (st1 lv i (.int x)) st) : GG μ κ ω A Q ad ce sl pc w lv (.int x :: st) := by
  intro X H locs ls hP hD hS hl
  exact lv_istore X.1 X.2.1 d hl hn rfl (fun ls' hl' => k X H locs ls' hP hD hS (st1_has hl'))
theorem G_lstore_n {n : Fin 4} {i : Nat} {x : Int64} (d : decode μ.2.1 pc = .ok (.lstore_n n, 1)) (hi : (n : Nat) = i) (hn : i + 1 < μ.2.2.1) (k : GG μ κ ω A Q ad ce sl (pc + 1) w (st2 lv i (.long x)) st) : GG μ κ ω A Q ad ce sl pc w lv (.long x :: st) := by
  intro X H locs ls hP hD hS hl
  exact lv_lstore_n X.1 X.2.1 d hi hl hn rfl (fun ls' hl' => k X H locs ls' hP hD hS (st2_has hl'))
theorem G_lstore {i : Nat} {x : Int64} (d : decode μ.2.1 pc = .ok (.lstore i, 2)) (hn : i + 1 < μ.2.2.1) (k : GG μ κ ω A Q ad ce sl (pc + 2) w (st2 lv i (.long x)) st) : GG μ κ ω A Q ad ce sl pc w lv (.long x :: st) := by
  intro X H locs ls hP hD hS hl
  exact lv_lstore X.1 X.2.1 d hl hn rfl (fun ls' hl' => k X H locs ls' hP hD hS (st2_has hl'))
theorem G_astore_n {n : Fin 4} {i x : Nat} (d : decode μ.2.1 pc = .ok (.astore_n n, 1)) (hi : (n : Nat) = i) (hn : i < μ.2.2.1) (k : GG μ κ ω A Q ad ce sl (pc + 1) w (st1 lv i (.ref x)) st) : GG μ κ ω A Q ad ce sl pc w lv (.ref x :: st) := by
  intro X H locs ls hP hD hS hl
  exact lv_astore_n X.1 X.2.1 d hi hl hn rfl (fun ls' hl' => k X H locs ls' hP hD hS (st1_has (v := .ref x) hl'))
theorem G_iinc {i : Nat} {n : Int} (c : Int32) {x : Int32} (d : decode μ.2.1 pc = .ok (.iinc i n, 3)) (hc : Int32.ofInt n = c) (hv : lv[i]? = some (some (.int x))) (hn : i < μ.2.2.1) (k : GG μ κ ω A Q ad ce sl (pc + 3) w (st1 lv i (.int (x + c))) st) : GG μ κ ω A Q ad ce sl pc w lv st := by
  intro X H locs ls hP hD hS hl
  obtain ⟨j, hj⟩ := List.getElem?_of_mem ((eL_mem ad (i, .int x) lv 0).mpr ⟨i, .int x, hv, by rw [Nat.zero_add]; rfl⟩)
  exact lv_iinc (v := x + c) X.1 X.2.1 d hl hj (by rw [hc]) hn rfl (fun ls' hl' => k X H locs ls' hP hD hS (st1_has hl'))
-- arithmetic
theorem G_iadd {x y : Int32} (d : decode μ.2.1 pc = .ok (.iadd, 1)) (k : GG μ κ ω A Q ad ce sl (pc + 1) w lv (.int (x + y) :: st)) : GG μ κ ω A Q ad ce sl pc w lv (.int y :: .int x :: st) := k.mv fun X H locs ls _ k => lv_iadd X.1 X.2.1 d k
theorem G_isub {x y : Int32} (d : decode μ.2.1 pc = .ok (.isub, 1)) (k : GG μ κ ω A Q ad ce sl (pc + 1) w lv (.int (x - y) :: st)) : GG μ κ ω A Q ad ce sl pc w lv (.int y :: .int x :: st) := k.mv fun X H locs ls _ k => lv_isub X.1 X.2.1 d k
theorem G_imul {x y : Int32} (d : decode μ.2.1 pc = .ok (.imul, 1)) (k : GG μ κ ω A Q ad ce sl (pc + 1) w lv (.int (x * y) :: st)) : GG μ κ ω A Q ad ce sl pc w lv (.int y :: .int x :: st) := k.mv fun X H locs ls _ k => lv_imul X.1 X.2.1 d k
theorem G_iand {x y : Int32} (d : decode μ.2.1 pc = .ok (.iand, 1)) (k : GG μ κ ω A Q ad ce sl (pc + 1) w lv (.int (x &&& y) :: st)) : GG μ κ ω A Q ad ce sl pc w lv (.int y :: .int x :: st) := k.mv fun X H locs ls _ k => lv_iand X.1 X.2.1 d k
theorem G_ior {x y : Int32} (d : decode μ.2.1 pc = .ok (.ior, 1)) (k : GG μ κ ω A Q ad ce sl (pc + 1) w lv (.int (x ||| y) :: st)) : GG μ κ ω A Q ad ce sl pc w lv (.int y :: .int x :: st) := k.mv fun X H locs ls _ k => lv_ior X.1 X.2.1 d k
theorem G_ixor {x y : Int32} (d : decode μ.2.1 pc = .ok (.ixor, 1)) (k : GG μ κ ω A Q ad ce sl (pc + 1) w lv (.int (x ^^^ y) :: st)) : GG μ κ ω A Q ad ce sl pc w lv (.int y :: .int x :: st) := k.mv fun X H locs ls _ k => lv_ixor X.1 X.2.1 d k
theorem G_ishl {x y : Int32} (d : decode μ.2.1 pc = .ok (.ishl, 1)) (k : GG μ κ ω A Q ad ce sl (pc + 1) w lv (.int (x <<< (y &&& 31)) :: st)) : GG μ κ ω A Q ad ce sl pc w lv (.int y :: .int x :: st) := k.mv fun X H locs ls _ k => lv_ishl X.1 X.2.1 d k
theorem G_ishr {x y : Int32} (d : decode μ.2.1 pc = .ok (.ishr, 1)) (k : GG μ κ ω A Q ad ce sl (pc + 1) w lv (.int (x >>> (y &&& 31)) :: st)) : GG μ κ ω A Q ad ce sl pc w lv (.int y :: .int x :: st) := k.mv fun X H locs ls _ k => lv_ishr X.1 X.2.1 d k
theorem G_ineg {x : Int32} (d : decode μ.2.1 pc = .ok (.ineg, 1)) (k : GG μ κ ω A Q ad ce sl (pc + 1) w lv (.int (-x) :: st)) : GG μ κ ω A Q ad ce sl pc w lv (.int x :: st) := k.mv fun X H locs ls _ k => lv_ineg X.1 X.2.1 d k
theorem G_idiv {x y : Int32} (d : decode μ.2.1 pc = .ok (.idiv, 1)) (hy : ¬ y = 0) (k : GG μ κ ω A Q ad ce sl (pc + 1) w lv (.int (x / y) :: st)) : GG μ κ ω A Q ad ce sl pc w lv (.int y :: .int x :: st) := k.mv fun X H locs ls _ k => lv_idiv X.1 X.2.1 d hy k
theorem G_irem {x y : Int32} (d : decode μ.2.1 pc = .ok (.irem, 1)) (hy : ¬ y = 0) (k : GG μ κ ω A Q ad ce sl (pc + 1) w lv (.int (x - x / y * y) :: st)) : GG μ κ ω A Q ad ce sl pc w lv (.int y :: .int x :: st) := k.mv fun X H locs ls _ k => lv_irem X.1 X.2.1 d hy k
theorem G_ladd {x y : Int64} (d : decode μ.2.1 pc = .ok (.ladd, 1)) (k : GG μ κ ω A Q ad ce sl (pc + 1) w lv (.long (x + y) :: st)) : GG μ κ ω A Q ad ce sl pc w lv (.long y :: .long x :: st) := k.mv fun X H locs ls _ k => lv_ladd X.1 X.2.1 d k
theorem G_lsub {x y : Int64} (d : decode μ.2.1 pc = .ok (.lsub, 1)) (k : GG μ κ ω A Q ad ce sl (pc + 1) w lv (.long (x - y) :: st)) : GG μ κ ω A Q ad ce sl pc w lv (.long y :: .long x :: st) := k.mv fun X H locs ls _ k => lv_lsub X.1 X.2.1 d k
theorem G_lmul {x y : Int64} (d : decode μ.2.1 pc = .ok (.lmul, 1)) (k : GG μ κ ω A Q ad ce sl (pc + 1) w lv (.long (x * y) :: st)) : GG μ κ ω A Q ad ce sl pc w lv (.long y :: .long x :: st) := k.mv fun X H locs ls _ k => lv_lmul X.1 X.2.1 d k
theorem G_land {x y : Int64} (d : decode μ.2.1 pc = .ok (.land, 1)) (k : GG μ κ ω A Q ad ce sl (pc + 1) w lv (.long (x &&& y) :: st)) : GG μ κ ω A Q ad ce sl pc w lv (.long y :: .long x :: st) := k.mv fun X H locs ls _ k => lv_land X.1 X.2.1 d k
theorem G_lor {x y : Int64} (d : decode μ.2.1 pc = .ok (.lor, 1)) (k : GG μ κ ω A Q ad ce sl (pc + 1) w lv (.long (x ||| y) :: st)) : GG μ κ ω A Q ad ce sl pc w lv (.long y :: .long x :: st) := k.mv fun X H locs ls _ k => lv_lor X.1 X.2.1 d k
theorem G_lneg {x : Int64} (d : decode μ.2.1 pc = .ok (.lneg, 1)) (k : GG μ κ ω A Q ad ce sl (pc + 1) w lv (.long (-x) :: st)) : GG μ κ ω A Q ad ce sl pc w lv (.long x :: st) := k.mv fun X H locs ls _ k => lv_lneg X.1 X.2.1 d k
theorem G_ldiv {x y : Int64} (d : decode μ.2.1 pc = .ok (.ldiv, 1)) (hy : ¬ y = 0) (k : GG μ κ ω A Q ad ce sl (pc + 1) w lv (.long (x / y) :: st)) : GG μ κ ω A Q ad ce sl pc w lv (.long y :: .long x :: st) := k.mv fun X H locs ls _ k => lv_ldiv X.1 X.2.1 d hy k
theorem G_lrem {x y : Int64} (d : decode μ.2.1 pc = .ok (.lrem, 1)) (hy : ¬ y = 0) (k : GG μ κ ω A Q ad ce sl (pc + 1) w lv (.long (x - x / y * y) :: st)) : GG μ κ ω A Q ad ce sl pc w lv (.long y :: .long x :: st) := k.mv fun X H locs ls _ k => lv_lrem X.1 X.2.1 d hy k
theorem G_lshl {x : Int64} {y : Int32} (d : decode μ.2.1 pc = .ok (.lshl, 1)) (k : GG μ κ ω A Q ad ce sl (pc + 1) w lv (.long (x <<< (y.toInt64 &&& 63)) :: st)) : GG μ κ ω A Q ad ce sl pc w lv (.int y :: .long x :: st) := k.mv fun X H locs ls _ k => lv_lshl X.1 X.2.1 d rfl k
theorem G_i2l {x : Int32} (d : decode μ.2.1 pc = .ok (.i2l, 1)) (k : GG μ κ ω A Q ad ce sl (pc + 1) w lv (.long x.toInt64 :: st)) : GG μ κ ω A Q ad ce sl pc w lv (.int x :: st) := k.mv fun X H locs ls _ k => lv_i2l X.1 X.2.1 d rfl k
theorem G_l2i {x : Int64} (d : decode μ.2.1 pc = .ok (.l2i, 1)) (k : GG μ κ ω A Q ad ce sl (pc + 1) w lv (.int x.toInt32 :: st)) : GG μ κ ω A Q ad ce sl pc w lv (.long x :: st) := k.mv fun X H locs ls _ k => lv_l2i X.1 X.2.1 d rfl k
theorem G_dup {v : Value} (d : decode μ.2.1 pc = .ok (.dup, 1)) (hv : v.category = 1) (k : GG μ κ ω A Q ad ce sl (pc + 1) w lv (v :: v :: st)) : GG μ κ ω A Q ad ce sl pc w lv (v :: st) := k.mv fun X H locs ls _ k => lv_dup X.1 X.2.1 d ((eV_cat ad v).trans hv) k
theorem G_dup2 {v u : Value} (d : decode μ.2.1 pc = .ok (.dup2, 1)) (hv : v.category = 1) (hu : u.category = 1) (k : GG μ κ ω A Q ad ce sl (pc + 1) w lv (v :: u :: v :: u :: st)) : GG μ κ ω A Q ad ce sl pc w lv (v :: u :: st) := k.mv fun X H locs ls _ k => lv_dup2_11 X.1 X.2.1 d ((eV_cat ad v).trans hv) ((eV_cat ad u).trans hu) k
theorem G_pop {v : Value} (d : decode μ.2.1 pc = .ok (.pop, 1)) (hv : v.category = 1) (k : GG μ κ ω A Q ad ce sl (pc + 1) w lv st) : GG μ κ ω A Q ad ce sl pc w lv (v :: st) := k.mv fun X H locs ls _ k => lv_pop X.1 X.2.1 d ((eV_cat ad v).trans hv) k
theorem G_pop2 {v : Value} (d : decode μ.2.1 pc = .ok (.pop2, 1)) (hv : v.category = 2) (k : GG μ κ ω A Q ad ce sl (pc + 1) w lv st) : GG μ κ ω A Q ad ce sl pc w lv (v :: st) := k.mv fun X H locs ls _ k => lv_pop2_2 X.1 X.2.1 d ((eV_cat ad v).trans hv) k
end GGS
