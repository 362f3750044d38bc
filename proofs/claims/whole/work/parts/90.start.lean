/-! the start of the law: the kit's skeleton, and the small machine set up -/
/-! THE CLAIM OUT OF ONE WALK OF THE LAW'S BODY. Your part is whole_start (and what it stands on); all else here is the same for every law, but numbers. -/
def R_law : String := "WishPlacesLaw"
def lw_P (b : Addr) (xs : List Int32) (args : Array Value) (s : State) : Prop := args = #[.ref b] ∧ s.IntsAt b xs ∧ xs.length ≤ 2048 ∧ (Jvm.Cond.and given_1 narrow_1).before args s = true
def lw_Q (_ : Array Value) (s : State) (o : Outcome) (t : State) : Prop := o = .returned (some (.int 1)) ∧ Framed s o t [] 600000 7302250
def lw_Z (below : List Frame) (a : Array Value) (s : State) : State → Prop := fun t => ∃ o, t.status = .running ∧ Ended t below o ∧ lw_Q a s o t
/-- the law's own end, with 1 on the stack, nothing written that was there before, its room as the claim has it -/
theorem lw_ret {p : Program} {l : Launch} {e : Env} {s : State} {m : MethodId} {below : List Frame} {meth : Method} {c : Code} {b : Nat} (hx : p.tables.exec = Jvm.exec) (hb : c.code = code) (hr : meth.sig.returnType = ret) (hlocks : meth.locks = false) {pc : Nat} {H : Heap} {ls : Array Slot} (hdg : decode code pc = .ok (.ireturn, 1)) : W p l e room_1 s m #[Value.ref b] below meth c H [] 600000 7302250 (lw_Z below #[Value.ref b] s) (F0 m pc ls [.int 1]) := by
  intro T hT X
  obtain ⟨fs, hret, hrun, hended, hW, hframe⟩ := X.leave (v := some (.int 1)) (hlocks := hlocks) (fun h => by rw [hr] at h; cases h)
  have hmeth' : T.vm.method? m = some meth := X.method'
  refine ⟨T.setFrames fs, ?_, .returned (some (.int 1)), hrun, hended, rfl, ⟨_, rfl⟩, hW, hframe⟩
  jvm_step X.here [X.here.top, hx, hb, hdg, hmeth', hr, ret, narrow_b1]
  (try refine ⟨rfl, ?_⟩); (try refine ⟨rfl, ?_⟩)
  first | (intro acts; rw [hret _ acts rfl rfl rfl]) | rw [hret _ _ rfl rfl rfl]
  exact Steps.refl _
/-- what holds at the law's entry: the machine, the code, the tables' words (any of lw_tbl by 'hts w (by decide +kernel)'), the script of L ints xs at the cell b, what the Statement gives of the start (any of its parts by flat_of_before) -/
def lw_At (p : Program) (s : State) (m : MethodId) (meth : Method) (c : Code) (b L : Nat) (xs : Nat → Int32) : Prop :=
  p.tables.exec = Jvm.exec ∧ c.code = code ∧ meth.sig.returnType = ret ∧ c.maxLocals = 4 ∧ s.vm.findClass R_law = some m.cls ∧ (∀ w ∈ lw_tbl, w.before #[Value.ref b] s = true) ∧ va_X b L xs s s.heap ∧ b < s.heap.size ∧ meth.locks = false ∧ (Jvm.Cond.and given_1 narrow_1).before #[Value.ref b] s = true
theorem arrK {args : Array Value} {s : State} {ty : FieldType} (hn : ∀ C, ty ≠ .object C) (h : (Cond.arrayClass ty).before args s = true) : ∃ cA : ClassId, ArrOfT s cA ty ∧ s.vm.findClass ("[" ++ ty.toString) = some cA := by
  obtain ⟨cA, kA, comp, h1, h2, h3⟩ := Cond.arrayClass_spec h
  exact ⟨cA, fun n z => ⟨fun k h => (by cases h), kA, h2, comp, h3⟩, h1⟩
theorem va_XT {b L : Nat} {xs : Nat → Int32} {s : State} {H : Heap} {A : Nat → Prop} (h : va_X b L xs s H) (hb : ¬ A b) : va_T .int b L (fun j => .int (xs j)) A s H := by
  obtain ⟨scr, h1, h2, h3, h4, h5⟩ := h
  exact ⟨scr, h1, h2, h3, by omega, by rw [h4], h5, hb⟩
set_option maxRecDepth 100000 in
theorem st_FIRSTS_GAINS {b : Nat} {s : State} (hgv : (Jvm.Cond.and given_1 narrow_1).before #[Value.ref b] s = true) (hts : ∀ w ∈ lw_tbl, w.before #[Value.ref b] s = true) : ∃ t : Nat, va_T .int t 8 (fun j => .int (ro_FIRSTS_GAINS j)) (fun q => s.heap.size ≤ q) s s.heap ∧ va_Z "WishPlaces" "FIRSTS_GAINS" "[I" (.ref t) (fun q => s.heap.size ≤ q) s s.heap := by
  have hq := flat_of_before _ hgv
  have hA : ∀ a : Nat, a < s.heap.size → ¬ (s.heap.size ≤ a) := fun a h => Nat.not_le.mpr h
  have hel : ∀ j : Nat, j < 8 → (Term.elem (Term.static "WishPlaces" "FIRSTS_GAINS" "[I") (.int (Int32.ofNat j))).eval #[Value.ref b] s none [] s = some ((fun j => Value.int (ro_FIRSTS_GAINS j)) j) := by
    intro j hj
    rcases (show j = 0 ∨ j = 1 ∨ j = 2 ∨ j = 3 ∨ j = 4 ∨ j = 5 ∨ j = 6 ∨ j = 7 by omega) with rfl | rfl | rfl | rfl | rfl | rfl | rfl | rfl
    · exact va_eqt (z := 0) (hq (Cond.eq (.elem (Term.static "WishPlaces" "FIRSTS_GAINS" "[I") (.int (Int32.ofNat 0))) (.int 0)) (by decide +kernel))
    · exact va_eqt (z := 1048576) (hq (Cond.eq (.elem (Term.static "WishPlaces" "FIRSTS_GAINS" "[I") (.int (Int32.ofNat 1))) (.int 1048576)) (by decide +kernel))
    · exact va_eqt (z := 65536) (hq (Cond.eq (.elem (Term.static "WishPlaces" "FIRSTS_GAINS" "[I") (.int (Int32.ofNat 2))) (.int 65536)) (by decide +kernel))
    · exact va_eqt (z := 4096) (hq (Cond.eq (.elem (Term.static "WishPlaces" "FIRSTS_GAINS" "[I") (.int (Int32.ofNat 3))) (.int 4096)) (by decide +kernel))
    · exact va_eqt (z := 256) (hq (Cond.eq (.elem (Term.static "WishPlaces" "FIRSTS_GAINS" "[I") (.int (Int32.ofNat 4))) (.int 256)) (by decide +kernel))
    · exact va_eqt (z := 16) (hq (Cond.eq (.elem (Term.static "WishPlaces" "FIRSTS_GAINS" "[I") (.int (Int32.ofNat 5))) (.int 16)) (by decide +kernel))
    · exact va_eqt (z := 1) (hq (Cond.eq (.elem (Term.static "WishPlaces" "FIRSTS_GAINS" "[I") (.int (Int32.ofNat 6))) (.int 1)) (by decide +kernel))
    · exact va_eqt (z := 0) (hq (Cond.eq (.elem (Term.static "WishPlaces" "FIRSTS_GAINS" "[I") (.int (Int32.ofNat 7))) (.int 0)) (by decide +kernel))
  obtain ⟨t, ht, hT⟩ := va_Tof (tm := (Term.static "WishPlaces" "FIRSTS_GAINS" "[I")) (ty := .int) (N := 8) (f := fun j => .int (ro_FIRSTS_GAINS j)) (A := fun q => s.heap.size ≤ q) (by decide) (hq _ (by decide +kernel)) (va_eqt (z := Int32.ofNat 8) (hq (Cond.eq (.length (Term.static "WishPlaces" "FIRSTS_GAINS" "[I")) (.int (Int32.ofNat 8))) (by decide +kernel))) hel hA
  exact ⟨t, hT, va_Zof (hts (.laysStatic "WishPlaces" "FIRSTS_GAINS" "[I") (by decide +kernel)) (hts (.initialized "WishPlaces") (by decide +kernel)) ht hA⟩
set_option maxRecDepth 100000 in
theorem st_FAIREST_GAINS {b : Nat} {s : State} (hgv : (Jvm.Cond.and given_1 narrow_1).before #[Value.ref b] s = true) (hts : ∀ w ∈ lw_tbl, w.before #[Value.ref b] s = true) : ∃ t : Nat, va_T .int t 8 (fun j => .int (ro_FAIREST_GAINS j)) (fun q => s.heap.size ≤ q) s s.heap ∧ va_Z "WishPlaces" "FAIREST_GAINS" "[I" (.ref t) (fun q => s.heap.size ≤ q) s s.heap := by
  have hq := flat_of_before _ hgv
  have hA : ∀ a : Nat, a < s.heap.size → ¬ (s.heap.size ≤ a) := fun a h => Nat.not_le.mpr h
  have hel : ∀ j : Nat, j < 8 → (Term.elem (Term.static "WishPlaces" "FAIREST_GAINS" "[I") (.int (Int32.ofNat j))).eval #[Value.ref b] s none [] s = some ((fun j => Value.int (ro_FAIREST_GAINS j)) j) := by
    intro j hj
    rcases (show j = 0 ∨ j = 1 ∨ j = 2 ∨ j = 3 ∨ j = 4 ∨ j = 5 ∨ j = 6 ∨ j = 7 by omega) with rfl | rfl | rfl | rfl | rfl | rfl | rfl | rfl
    · exact va_eqt (z := 0) (hq (Cond.eq (.elem (Term.static "WishPlaces" "FAIREST_GAINS" "[I") (.int (Int32.ofNat 0))) (.int 0)) (by decide +kernel))
    · exact va_eqt (z := (-1)) (hq (Cond.eq (.elem (Term.static "WishPlaces" "FAIREST_GAINS" "[I") (.int (Int32.ofNat 1))) (.int (-1))) (by decide +kernel))
    · exact va_eqt (z := (-16)) (hq (Cond.eq (.elem (Term.static "WishPlaces" "FAIREST_GAINS" "[I") (.int (Int32.ofNat 2))) (.int (-16))) (by decide +kernel))
    · exact va_eqt (z := (-256)) (hq (Cond.eq (.elem (Term.static "WishPlaces" "FAIREST_GAINS" "[I") (.int (Int32.ofNat 3))) (.int (-256))) (by decide +kernel))
    · exact va_eqt (z := (-4096)) (hq (Cond.eq (.elem (Term.static "WishPlaces" "FAIREST_GAINS" "[I") (.int (Int32.ofNat 4))) (.int (-4096))) (by decide +kernel))
    · exact va_eqt (z := (-65536)) (hq (Cond.eq (.elem (Term.static "WishPlaces" "FAIREST_GAINS" "[I") (.int (Int32.ofNat 5))) (.int (-65536))) (by decide +kernel))
    · exact va_eqt (z := (-1048576)) (hq (Cond.eq (.elem (Term.static "WishPlaces" "FAIREST_GAINS" "[I") (.int (Int32.ofNat 6))) (.int (-1048576))) (by decide +kernel))
    · exact va_eqt (z := (-16777216)) (hq (Cond.eq (.elem (Term.static "WishPlaces" "FAIREST_GAINS" "[I") (.int (Int32.ofNat 7))) (.int (-16777216))) (by decide +kernel))
  obtain ⟨t, ht, hT⟩ := va_Tof (tm := (Term.static "WishPlaces" "FAIREST_GAINS" "[I")) (ty := .int) (N := 8) (f := fun j => .int (ro_FAIREST_GAINS j)) (A := fun q => s.heap.size ≤ q) (by decide) (hq _ (by decide +kernel)) (va_eqt (z := Int32.ofNat 8) (hq (Cond.eq (.length (Term.static "WishPlaces" "FAIREST_GAINS" "[I")) (.int (Int32.ofNat 8))) (by decide +kernel))) hel hA
  exact ⟨t, hT, va_Zof (hts (.laysStatic "WishPlaces" "FAIREST_GAINS" "[I") (by decide +kernel)) (hts (.initialized "WishPlaces") (by decide +kernel)) ht hA⟩
set_option maxRecDepth 100000 in
theorem st_MOST_GAINS {b : Nat} {s : State} (hgv : (Jvm.Cond.and given_1 narrow_1).before #[Value.ref b] s = true) (hts : ∀ w ∈ lw_tbl, w.before #[Value.ref b] s = true) : ∃ t : Nat, va_T .int t 8 (fun j => .int (ro_MOST_GAINS j)) (fun q => s.heap.size ≤ q) s s.heap ∧ va_Z "WishPlaces" "MOST_GAINS" "[I" (.ref t) (fun q => s.heap.size ≤ q) s s.heap := by
  have hq := flat_of_before _ hgv
  have hA : ∀ a : Nat, a < s.heap.size → ¬ (s.heap.size ≤ a) := fun a h => Nat.not_le.mpr h
  have hel : ∀ j : Nat, j < 8 → (Term.elem (Term.static "WishPlaces" "MOST_GAINS" "[I") (.int (Int32.ofNat j))).eval #[Value.ref b] s none [] s = some ((fun j => Value.int (ro_MOST_GAINS j)) j) := by
    intro j hj
    rcases (show j = 0 ∨ j = 1 ∨ j = 2 ∨ j = 3 ∨ j = 4 ∨ j = 5 ∨ j = 6 ∨ j = 7 by omega) with rfl | rfl | rfl | rfl | rfl | rfl | rfl | rfl
    · exact va_eqt (z := 0) (hq (Cond.eq (.elem (Term.static "WishPlaces" "MOST_GAINS" "[I") (.int (Int32.ofNat 0))) (.int 0)) (by decide +kernel))
    · exact va_eqt (z := (-1)) (hq (Cond.eq (.elem (Term.static "WishPlaces" "MOST_GAINS" "[I") (.int (Int32.ofNat 1))) (.int (-1))) (by decide +kernel))
    · exact va_eqt (z := (-2)) (hq (Cond.eq (.elem (Term.static "WishPlaces" "MOST_GAINS" "[I") (.int (Int32.ofNat 2))) (.int (-2))) (by decide +kernel))
    · exact va_eqt (z := (-3)) (hq (Cond.eq (.elem (Term.static "WishPlaces" "MOST_GAINS" "[I") (.int (Int32.ofNat 3))) (.int (-3))) (by decide +kernel))
    · exact va_eqt (z := (-4)) (hq (Cond.eq (.elem (Term.static "WishPlaces" "MOST_GAINS" "[I") (.int (Int32.ofNat 4))) (.int (-4))) (by decide +kernel))
    · exact va_eqt (z := (-5)) (hq (Cond.eq (.elem (Term.static "WishPlaces" "MOST_GAINS" "[I") (.int (Int32.ofNat 5))) (.int (-5))) (by decide +kernel))
    · exact va_eqt (z := (-6)) (hq (Cond.eq (.elem (Term.static "WishPlaces" "MOST_GAINS" "[I") (.int (Int32.ofNat 6))) (.int (-6))) (by decide +kernel))
    · exact va_eqt (z := (-1000)) (hq (Cond.eq (.elem (Term.static "WishPlaces" "MOST_GAINS" "[I") (.int (Int32.ofNat 7))) (.int (-1000))) (by decide +kernel))
  obtain ⟨t, ht, hT⟩ := va_Tof (tm := (Term.static "WishPlaces" "MOST_GAINS" "[I")) (ty := .int) (N := 8) (f := fun j => .int (ro_MOST_GAINS j)) (A := fun q => s.heap.size ≤ q) (by decide) (hq _ (by decide +kernel)) (va_eqt (z := Int32.ofNat 8) (hq (Cond.eq (.length (Term.static "WishPlaces" "MOST_GAINS" "[I")) (.int (Int32.ofNat 8))) (by decide +kernel))) hel hA
  exact ⟨t, hT, va_Zof (hts (.laysStatic "WishPlaces" "MOST_GAINS" "[I") (by decide +kernel)) (hts (.initialized "WishPlaces") (by decide +kernel)) ht hA⟩
set_option maxRecDepth 100000 in
theorem st_ORDERS {b : Nat} {s : State} (hgv : (Jvm.Cond.and given_1 narrow_1).before #[Value.ref b] s = true) (hts : ∀ w ∈ lw_tbl, w.before #[Value.ref b] s = true) : ∃ t : Nat, va_T .int t 9 (fun j => .int (ro_ORDERS j)) (fun q => s.heap.size ≤ q) s s.heap ∧ va_Z "WishPlaces$Lots" "ORDERS" "[I" (.ref t) (fun q => s.heap.size ≤ q) s s.heap := by
  have hq := flat_of_before _ hgv
  have hA : ∀ a : Nat, a < s.heap.size → ¬ (s.heap.size ≤ a) := fun a h => Nat.not_le.mpr h
  have hel : ∀ j : Nat, j < 9 → (Term.elem (Term.static "WishPlaces$Lots" "ORDERS" "[I") (.int (Int32.ofNat j))).eval #[Value.ref b] s none [] s = some ((fun j => Value.int (ro_ORDERS j)) j) := by
    intro j hj
    rcases (show j = 0 ∨ j = 1 ∨ j = 2 ∨ j = 3 ∨ j = 4 ∨ j = 5 ∨ j = 6 ∨ j = 7 ∨ j = 8 by omega) with rfl | rfl | rfl | rfl | rfl | rfl | rfl | rfl | rfl
    · exact va_eqt (z := 1) (hq (Cond.eq (.elem (Term.static "WishPlaces$Lots" "ORDERS" "[I") (.int (Int32.ofNat 0))) (.int 1)) (by decide +kernel))
    · exact va_eqt (z := 1) (hq (Cond.eq (.elem (Term.static "WishPlaces$Lots" "ORDERS" "[I") (.int (Int32.ofNat 1))) (.int 1)) (by decide +kernel))
    · exact va_eqt (z := 2) (hq (Cond.eq (.elem (Term.static "WishPlaces$Lots" "ORDERS" "[I") (.int (Int32.ofNat 2))) (.int 2)) (by decide +kernel))
    · exact va_eqt (z := 6) (hq (Cond.eq (.elem (Term.static "WishPlaces$Lots" "ORDERS" "[I") (.int (Int32.ofNat 3))) (.int 6)) (by decide +kernel))
    · exact va_eqt (z := 24) (hq (Cond.eq (.elem (Term.static "WishPlaces$Lots" "ORDERS" "[I") (.int (Int32.ofNat 4))) (.int 24)) (by decide +kernel))
    · exact va_eqt (z := 120) (hq (Cond.eq (.elem (Term.static "WishPlaces$Lots" "ORDERS" "[I") (.int (Int32.ofNat 5))) (.int 120)) (by decide +kernel))
    · exact va_eqt (z := 720) (hq (Cond.eq (.elem (Term.static "WishPlaces$Lots" "ORDERS" "[I") (.int (Int32.ofNat 6))) (.int 720)) (by decide +kernel))
    · exact va_eqt (z := 5040) (hq (Cond.eq (.elem (Term.static "WishPlaces$Lots" "ORDERS" "[I") (.int (Int32.ofNat 7))) (.int 5040)) (by decide +kernel))
    · exact va_eqt (z := 40320) (hq (Cond.eq (.elem (Term.static "WishPlaces$Lots" "ORDERS" "[I") (.int (Int32.ofNat 8))) (.int 40320)) (by decide +kernel))
  obtain ⟨t, ht, hT⟩ := va_Tof (tm := (Term.static "WishPlaces$Lots" "ORDERS" "[I")) (ty := .int) (N := 9) (f := fun j => .int (ro_ORDERS j)) (A := fun q => s.heap.size ≤ q) (by decide) (hq _ (by decide +kernel)) (va_eqt (z := Int32.ofNat 9) (hq (Cond.eq (.length (Term.static "WishPlaces$Lots" "ORDERS" "[I")) (.int (Int32.ofNat 9))) (by decide +kernel))) hel hA
  exact ⟨t, hT, va_Zof (hts (.laysStatic "WishPlaces$Lots" "ORDERS" "[I") (by decide +kernel)) (hts (.initialized "WishPlaces$Lots") (by decide +kernel)) ht hA⟩
set_option maxHeartbeats 4000000 in
set_option maxRecDepth 100000 in
theorem whole_start {p : Program} {e : Env} {s : State} {m : MethodId} {below : List Frame} {meth : Method} {c : Code} (l : Launch) (hflags : l.flags = flags0) {b L : Nat} {xs : Nat → Int32} (hL : L ≤ 2048) (C0 : lw_At p s m meth c b L xs) : W p l e room_1 s m #[Value.ref b] below meth c s.heap [] 0 0 (lw_Z below #[Value.ref b] s) (entryFrame m ([Value.ref b] : List Value).toArray 4) := by
  obtain ⟨hx, hb, hr, hml, hown, hts, hX, hbl, hlocks, hgv⟩ := C0
  obtain ⟨N, cl, ct, hf0, hl0⟩ := PURE L xs hL
  have hw : ∀ w ∈ ALLW, w.before #[Value.ref b] s = true := fun w h => hts w (all_tbl h)
  obtain ⟨c0, i0, k0⟩ := u_known (C := RX0) (T := TX0) (N := 7) (n := 7) hw uX0 (hts (.instantiable RX0 7) (by decide +kernel))
  obtain ⟨c1, i1, k1⟩ := u_known (C := RX1) (T := TX1) (N := 7) (n := 7) hw uX1 (hts (.instantiable RX1 7) (by decide +kernel))
  obtain ⟨c2, i2, k2⟩ := u_known (C := RX2) (T := TX2) (N := 8) (n := 8) hw uX2 (hts (.instantiable RX2 8) (by decide +kernel))
  obtain ⟨c3, i3, k3⟩ := u_known (C := RX3) (T := TX3) (N := 4) (n := 4) hw uX3 (hts (.instantiable RX3 4) (by decide +kernel))
  obtain ⟨c4, i4, k4⟩ := u_known (C := RX4) (T := TX4) (N := 16) (n := 16) hw uX4 (hts (.instantiable RX4 16) (by decide +kernel))
  obtain ⟨c5, i5, k5⟩ := u_known (C := RX5) (T := TX5) (N := 4) (n := 4) hw uX5 (hts (.instantiable RX5 4) (by decide +kernel))
  obtain ⟨c6, i6, k6⟩ := u_known (C := RX6) (T := TX6) (N := 6) (n := 6) hw uX6 (hts (.instantiable RX6 6) (by decide +kernel))
  obtain ⟨c7, i7, k7⟩ := u_known (C := RX7) (T := TX7) (N := 12) (n := 12) hw uX7 (hts (.instantiable RX7 12) (by decide +kernel))
  obtain ⟨c8, i8, k8⟩ := u_known (C := RX8) (T := TX8) (N := 29) (n := 29) hw uX8 (hts (.instantiable RX8 29) (by decide +kernel))
  obtain ⟨aI, aI1, aI2⟩ := arrK (ty := .int) (fun _ h => by cases h) (hw _ aw_0)
  obtain ⟨aJ, aJ1, aJ2⟩ := arrK (ty := .long) (fun _ h => by cases h) (hw _ aw_1)
  obtain ⟨aZ, aZ1, aZ2⟩ := arrK (ty := .boolean) (fun _ h => by cases h) (hw _ aw_2)
  obtain ⟨t_FIRSTS_GAINS, T_FIRSTS_GAINS, Z_FIRSTS_GAINS⟩ := st_FIRSTS_GAINS hgv hts
  obtain ⟨t_FAIREST_GAINS, T_FAIREST_GAINS, Z_FAIREST_GAINS⟩ := st_FAIREST_GAINS hgv hts
  obtain ⟨t_MOST_GAINS, T_MOST_GAINS, Z_MOST_GAINS⟩ := st_MOST_GAINS hgv hts
  obtain ⟨t_ORDERS, T_ORDERS, Z_ORDERS⟩ := st_ORDERS hgv hts
  have hK : va_K (fun k => [c0, c1, c2, c3, c4, c5, c6, c7, c8].getD k c0, fun k => [i0, i1, i2, i3, i4, i5, i6, i7, i8].getD k i0) vwCl (mT (fun k => [aI, aJ, aZ].getD k aI)) s := by
    refine ⟨fun c q hq => ?_, fun k q hq => ?_⟩
    · match c, hq with
      | 0, hq => cases hq; exact k0
      | 1, hq => cases hq; exact k1
      | 2, hq => cases hq; exact k2
      | 3, hq => cases hq; exact k3
      | 4, hq => cases hq; exact k4
      | 5, hq => cases hq; exact k5
      | 6, hq => cases hq; exact k6
      | 7, hq => cases hq; exact k7
      | 8, hq => cases hq; exact k8
      | c + 9, hq => simp [vwCl] at hq
    · match k, hq with
      | 0, hq => cases hq; exact ⟨aI1, aI2⟩
      | 1, hq => cases hq; exact ⟨aJ1, aJ2⟩
      | 2, hq => cases hq; exact ⟨aZ1, aZ2⟩
      | k + 3, hq => simp [mT] at hq
  have hnb : ¬ s.heap.size ≤ b := Nat.not_le.mpr hbl
  have hl := lv_entry ([.ref b]) (n := 4) (Nat.le_of_ble_eq_true rfl)
  rw [lg_entry_eq]
  refine g_L_law (κ := (p, l, e, s, m, #[Value.ref b], below, meth, c)) (ω := (fun k => [c0, c1, c2, c3, c4, c5, c6, c7, c8].getD k c0, fun k => [i0, i1, i2, i3, i4, i5, i6, i7, i8].getD k i0, fun k => [aI, aJ, aZ].getD k aI)) (A := fun q => s.heap.size ≤ q) (Q := lw_Z below #[Value.ref b] s) (ad := fun k => [b, t_ORDERS, t_FAIREST_GAINS, t_FIRSTS_GAINS, t_MOST_GAINS].getD (k - 1000) 0) (δ := fun _ => 0) (nm := meth.name) (N := N) (L := L) (c_a0 := xs) ?_ hf0 hl0 ⟨hx, hb, hml, hown, hw, hK, fun q h => h, hlocks, hr, rfl, ?_, ?_⟩ s.heap [] _ (fun k q h => by simp [eWf] at h) ⟨fun i j p q h => by simp [eWf] at h, fun k q h => by simp [eWf] at h⟩ va_S.rf (lv_less hl (fun q hq => hq))
  · intro δ w lv X H locs ls hP hD hS hl
    exact va_forget (fun q hq => hS.2.2 q hq) (W.widen (leb rfl) (leb rfl) (lw_ret hx hb hr hlocks dL_law_1063))
  · exact List.forall_mem_cons.mpr ⟨va_XT hX hnb, List.forall_mem_cons.mpr ⟨T_ORDERS, List.forall_mem_cons.mpr ⟨T_FAIREST_GAINS, List.forall_mem_cons.mpr ⟨T_FIRSTS_GAINS, List.forall_mem_cons.mpr ⟨T_MOST_GAINS, fun _ h => absurd h List.not_mem_nil⟩⟩⟩⟩⟩
  · exact List.forall_mem_cons.mpr ⟨Z_ORDERS, List.forall_mem_cons.mpr ⟨Z_FAIREST_GAINS, List.forall_mem_cons.mpr ⟨Z_FIRSTS_GAINS, List.forall_mem_cons.mpr ⟨Z_MOST_GAINS, fun _ h => absurd h List.not_mem_nil⟩⟩⟩⟩
