/-! BRANCHES, CELLS, RETURNS, CONTRACTS, CALLS of the small machine -/
section GGB
variable {μ : KM} {κ : KC} {ω : KW} {A : Nat → Prop} {Q : State → Prop} {ad : Nat → Nat} {ce sl pc : Nat} {w : List mE} {lv : List (Option Value)} {st : List Value}
theorem G_goto {off : Int} (tgt : Nat) (d : decode μ.2.1 pc = .ok (.goto off, 3)) (ht : (pc : Int) + off = (tgt : Int)) (k : GG μ κ ω A Q ad ce sl tgt w lv st) : GG μ κ ω A Q ad ce sl pc w lv st := k.mv fun X H locs ls _ k => lv_goto X.1 X.2.1 d ht k
theorem G_if_eq {x : Int32} {off : Int} (tgt : Nat) (d : decode μ.2.1 pc = .ok (.ifCond .eq off, 3)) (ht : (pc : Int) + off = (tgt : Int)) (kt : x = 0 → GG μ κ ω A Q ad ce sl tgt w lv st) (kf : ¬ x = 0 → GG μ κ ω A Q ad ce sl (pc + 3) w lv st) : GG μ κ ω A Q ad ce sl pc w lv (.int x :: st) :=
  fun X H locs ls hP hD hS hl => lv_if_eq X.1 X.2.1 d ht (fun c => kt c X H locs ls hP hD hS hl) (fun c => kf c X H locs ls hP hD hS hl)
theorem G_if_ne {x : Int32} {off : Int} (tgt : Nat) (d : decode μ.2.1 pc = .ok (.ifCond .ne off, 3)) (ht : (pc : Int) + off = (tgt : Int)) (kt : ¬ x = 0 → GG μ κ ω A Q ad ce sl tgt w lv st) (kf : x = 0 → GG μ κ ω A Q ad ce sl (pc + 3) w lv st) : GG μ κ ω A Q ad ce sl pc w lv (.int x :: st) :=
  fun X H locs ls hP hD hS hl => lv_if_ne X.1 X.2.1 d ht (fun c => kt c X H locs ls hP hD hS hl) (fun c => kf c X H locs ls hP hD hS hl)
theorem G_if_lt {x : Int32} {off : Int} (tgt : Nat) (d : decode μ.2.1 pc = .ok (.ifCond .lt off, 3)) (ht : (pc : Int) + off = (tgt : Int)) (kt : x < 0 → GG μ κ ω A Q ad ce sl tgt w lv st) (kf : ¬ x < 0 → GG μ κ ω A Q ad ce sl (pc + 3) w lv st) : GG μ κ ω A Q ad ce sl pc w lv (.int x :: st) :=
  fun X H locs ls hP hD hS hl => lv_if_lt X.1 X.2.1 d ht (fun c => kt c X H locs ls hP hD hS hl) (fun c => kf c X H locs ls hP hD hS hl)
theorem G_if_ge {x : Int32} {off : Int} (tgt : Nat) (d : decode μ.2.1 pc = .ok (.ifCond .ge off, 3)) (ht : (pc : Int) + off = (tgt : Int)) (kt : 0 ≤ x → GG μ κ ω A Q ad ce sl tgt w lv st) (kf : ¬ 0 ≤ x → GG μ κ ω A Q ad ce sl (pc + 3) w lv st) : GG μ κ ω A Q ad ce sl pc w lv (.int x :: st) :=
  fun X H locs ls hP hD hS hl => lv_if_ge X.1 X.2.1 d ht (fun c => kt c X H locs ls hP hD hS hl) (fun c => kf c X H locs ls hP hD hS hl)
theorem G_if_gt {x : Int32} {off : Int} (tgt : Nat) (d : decode μ.2.1 pc = .ok (.ifCond .gt off, 3)) (ht : (pc : Int) + off = (tgt : Int)) (kt : 0 < x → GG μ κ ω A Q ad ce sl tgt w lv st) (kf : ¬ 0 < x → GG μ κ ω A Q ad ce sl (pc + 3) w lv st) : GG μ κ ω A Q ad ce sl pc w lv (.int x :: st) :=
  fun X H locs ls hP hD hS hl => lv_if_gt X.1 X.2.1 d ht (fun c => kt c X H locs ls hP hD hS hl) (fun c => kf c X H locs ls hP hD hS hl)
theorem G_if_le {x : Int32} {off : Int} (tgt : Nat) (d : decode μ.2.1 pc = .ok (.ifCond .le off, 3)) (ht : (pc : Int) + off = (tgt : Int)) (kt : x ≤ 0 → GG μ κ ω A Q ad ce sl tgt w lv st) (kf : ¬ x ≤ 0 → GG μ κ ω A Q ad ce sl (pc + 3) w lv st) : GG μ κ ω A Q ad ce sl pc w lv (.int x :: st) :=
  fun X H locs ls hP hD hS hl => lv_if_le X.1 X.2.1 d ht (fun c => kt c X H locs ls hP hD hS hl) (fun c => kf c X H locs ls hP hD hS hl)
theorem G_icmp_eq {x y : Int32} {off : Int} (tgt : Nat) (d : decode μ.2.1 pc = .ok (.if_icmp .eq off, 3)) (ht : (pc : Int) + off = (tgt : Int)) (kt : x = y → GG μ κ ω A Q ad ce sl tgt w lv st) (kf : ¬ x = y → GG μ κ ω A Q ad ce sl (pc + 3) w lv st) : GG μ κ ω A Q ad ce sl pc w lv (.int y :: .int x :: st) :=
  fun X H locs ls hP hD hS hl => lv_icmp_eq X.1 X.2.1 d ht (fun c => kt c X H locs ls hP hD hS hl) (fun c => kf c X H locs ls hP hD hS hl)
theorem G_icmp_ne {x y : Int32} {off : Int} (tgt : Nat) (d : decode μ.2.1 pc = .ok (.if_icmp .ne off, 3)) (ht : (pc : Int) + off = (tgt : Int)) (kt : ¬ x = y → GG μ κ ω A Q ad ce sl tgt w lv st) (kf : x = y → GG μ κ ω A Q ad ce sl (pc + 3) w lv st) : GG μ κ ω A Q ad ce sl pc w lv (.int y :: .int x :: st) :=
  fun X H locs ls hP hD hS hl => lv_icmp_ne X.1 X.2.1 d ht (fun c => kt c X H locs ls hP hD hS hl) (fun c => kf c X H locs ls hP hD hS hl)
theorem G_icmp_lt {x y : Int32} {off : Int} (tgt : Nat) (d : decode μ.2.1 pc = .ok (.if_icmp .lt off, 3)) (ht : (pc : Int) + off = (tgt : Int)) (kt : x < y → GG μ κ ω A Q ad ce sl tgt w lv st) (kf : ¬ x < y → GG μ κ ω A Q ad ce sl (pc + 3) w lv st) : GG μ κ ω A Q ad ce sl pc w lv (.int y :: .int x :: st) :=
  fun X H locs ls hP hD hS hl => lv_icmp_lt X.1 X.2.1 d ht (fun c => kt c X H locs ls hP hD hS hl) (fun c => kf c X H locs ls hP hD hS hl)
theorem G_icmp_ge {x y : Int32} {off : Int} (tgt : Nat) (d : decode μ.2.1 pc = .ok (.if_icmp .ge off, 3)) (ht : (pc : Int) + off = (tgt : Int)) (kt : y ≤ x → GG μ κ ω A Q ad ce sl tgt w lv st) (kf : ¬ y ≤ x → GG μ κ ω A Q ad ce sl (pc + 3) w lv st) : GG μ κ ω A Q ad ce sl pc w lv (.int y :: .int x :: st) :=
  fun X H locs ls hP hD hS hl => lv_icmp_ge X.1 X.2.1 d ht (fun c => kt c X H locs ls hP hD hS hl) (fun c => kf c X H locs ls hP hD hS hl)
theorem G_icmp_gt {x y : Int32} {off : Int} (tgt : Nat) (d : decode μ.2.1 pc = .ok (.if_icmp .gt off, 3)) (ht : (pc : Int) + off = (tgt : Int)) (kt : y < x → GG μ κ ω A Q ad ce sl tgt w lv st) (kf : ¬ y < x → GG μ κ ω A Q ad ce sl (pc + 3) w lv st) : GG μ κ ω A Q ad ce sl pc w lv (.int y :: .int x :: st) :=
  fun X H locs ls hP hD hS hl => lv_icmp_gt X.1 X.2.1 d ht (fun c => kt c X H locs ls hP hD hS hl) (fun c => kf c X H locs ls hP hD hS hl)
theorem G_icmp_le {x y : Int32} {off : Int} (tgt : Nat) (d : decode μ.2.1 pc = .ok (.if_icmp .le off, 3)) (ht : (pc : Int) + off = (tgt : Int)) (kt : x ≤ y → GG μ κ ω A Q ad ce sl tgt w lv st) (kf : ¬ x ≤ y → GG μ κ ω A Q ad ce sl (pc + 3) w lv st) : GG μ κ ω A Q ad ce sl pc w lv (.int y :: .int x :: st) :=
  fun X H locs ls hP hD hS hl => lv_icmp_le X.1 X.2.1 d ht (fun c => kt c X H locs ls hP hD hS hl) (fun c => kf c X H locs ls hP hD hS hl)
theorem G_lcmp {x y : Int64} (d : decode μ.2.1 pc = .ok (.lcmp, 1)) (k : GG μ κ ω A Q ad ce sl (pc + 1) w lv (.int (lg_cmp x y) :: st)) : GG μ κ ω A Q ad ce sl pc w lv (.long y :: .long x :: st) := k.mv fun X H locs ls _ k => W.lcmp X.1 X.2.1 d k
theorem lc_cases (x y : Int64) : (y < x ∧ lg_cmp x y = 1) ∨ (x = y ∧ lg_cmp x y = 0) ∨ (x < y ∧ lg_cmp x y = -1) := by
  unfold lg_cmp
  by_cases h1 : y < x
  · exact Or.inl ⟨h1, by simp [h1]⟩
  · by_cases h2 : x = y
    · subst h2; exact Or.inr (Or.inl ⟨rfl, by simp [h1]⟩)
    · have h3 : x < y := by
        rw [Int64.lt_iff_toInt_lt] at h1 ⊢
        have : x.toInt ≠ y.toInt := fun e => h2 (Int64.toInt_inj.mp e)
        omega
      refine Or.inr (Or.inr ⟨h3, ?_⟩)
      simp [h1, h2, h3]
theorem l_asym {x y : Int64} (h : x < y) : ¬ y < x ∧ ¬ x = y ∧ ¬ y ≤ x ∧ x ≤ y := by
  refine ⟨fun q => ?_, fun q => ?_, fun q => ?_, ?_⟩
  · rw [Int64.lt_iff_toInt_lt] at h q; omega
  · rw [Int64.lt_iff_toInt_lt, q] at h; omega
  · rw [Int64.lt_iff_toInt_lt] at h; rw [Int64.le_iff_toInt_le] at q; omega
  · rw [Int64.lt_iff_toInt_lt] at h; rw [Int64.le_iff_toInt_le]; omega
theorem l_rf (x : Int64) : ¬ x < x ∧ x ≤ x := by
  refine ⟨fun q => ?_, ?_⟩
  · rw [Int64.lt_iff_toInt_lt] at q; omega
  · rw [Int64.le_iff_toInt_le]; omega
theorem lc_eq (x y : Int64) : (lg_cmp x y = 0) ↔ (x = y) := by
  rcases lc_cases x y with ⟨h, e⟩ | ⟨h, e⟩ | ⟨h, e⟩
  · rw [e]; have q := l_asym h; have q2 : ¬ y = x := q.2.1; have q3 : ¬ x = y := fun z => q2 z.symm; simp [q.1, q.2.2.1, q.2.2.2, q2, q3, h]
  · subst h; rw [e]; have q := l_rf x; simp [q.1, q.2]
  · rw [e]; have q := l_asym h; simp [q.1, q.2.1, q.2.2.1, q.2.2.2, h]
theorem G_lcmp_eq {x y : Int64} {off : Int} (tgt : Nat) (d : decode μ.2.1 pc = .ok (.lcmp, 1)) (d2 : decode μ.2.1 (pc + 1) = .ok (.ifCond .eq off, 3)) (ht : ((pc + 1 : Nat) : Int) + off = (tgt : Int)) (kt : x = y → GG μ κ ω A Q ad ce sl tgt w lv st) (kf : ¬ x = y → GG μ κ ω A Q ad ce sl (pc + 1 + 3) w lv st) : GG μ κ ω A Q ad ce sl pc w lv (.long y :: .long x :: st) :=
  G_lcmp d (G_if_eq tgt d2 ht (fun c => kt ((lc_eq x y).mp c)) (fun c => kf (fun n => c ((lc_eq x y).mpr n))))
theorem lc_ne (x y : Int64) : (¬ lg_cmp x y = 0) ↔ (¬ x = y) := by
  rcases lc_cases x y with ⟨h, e⟩ | ⟨h, e⟩ | ⟨h, e⟩
  · rw [e]; have q := l_asym h; have q2 : ¬ y = x := q.2.1; have q3 : ¬ x = y := fun z => q2 z.symm; simp [q.1, q.2.2.1, q.2.2.2, q2, q3, h]
  · subst h; rw [e]; have q := l_rf x; simp [q.1, q.2]
  · rw [e]; have q := l_asym h; simp [q.1, q.2.1, q.2.2.1, q.2.2.2, h]
theorem G_lcmp_ne {x y : Int64} {off : Int} (tgt : Nat) (d : decode μ.2.1 pc = .ok (.lcmp, 1)) (d2 : decode μ.2.1 (pc + 1) = .ok (.ifCond .ne off, 3)) (ht : ((pc + 1 : Nat) : Int) + off = (tgt : Int)) (kt : ¬ x = y → GG μ κ ω A Q ad ce sl tgt w lv st) (kf : x = y → GG μ κ ω A Q ad ce sl (pc + 1 + 3) w lv st) : GG μ κ ω A Q ad ce sl pc w lv (.long y :: .long x :: st) :=
  G_lcmp d (G_if_ne tgt d2 ht (fun c => kt ((lc_ne x y).mp c)) (fun c => kf (Classical.not_not.mp (fun n => ((lc_ne x y).mpr n) c))))
theorem lc_lt (x y : Int64) : (lg_cmp x y < 0) ↔ (x < y) := by
  rcases lc_cases x y with ⟨h, e⟩ | ⟨h, e⟩ | ⟨h, e⟩
  · rw [e]; have q := l_asym h; have q2 : ¬ y = x := q.2.1; have q3 : ¬ x = y := fun z => q2 z.symm; simp [q.1, q.2.2.1, q.2.2.2, q2, q3, h]
  · subst h; rw [e]; have q := l_rf x; simp [q.1, q.2]
  · rw [e]; have q := l_asym h; simp [q.1, q.2.1, q.2.2.1, q.2.2.2, h]
theorem G_lcmp_lt {x y : Int64} {off : Int} (tgt : Nat) (d : decode μ.2.1 pc = .ok (.lcmp, 1)) (d2 : decode μ.2.1 (pc + 1) = .ok (.ifCond .lt off, 3)) (ht : ((pc + 1 : Nat) : Int) + off = (tgt : Int)) (kt : x < y → GG μ κ ω A Q ad ce sl tgt w lv st) (kf : ¬ x < y → GG μ κ ω A Q ad ce sl (pc + 1 + 3) w lv st) : GG μ κ ω A Q ad ce sl pc w lv (.long y :: .long x :: st) :=
  G_lcmp d (G_if_lt tgt d2 ht (fun c => kt ((lc_lt x y).mp c)) (fun c => kf (fun n => c ((lc_lt x y).mpr n))))
theorem lc_ge (x y : Int64) : (0 ≤ lg_cmp x y) ↔ (y ≤ x) := by
  rcases lc_cases x y with ⟨h, e⟩ | ⟨h, e⟩ | ⟨h, e⟩
  · rw [e]; have q := l_asym h; have q2 : ¬ y = x := q.2.1; have q3 : ¬ x = y := fun z => q2 z.symm; simp [q.1, q.2.2.1, q.2.2.2, q2, q3, h]
  · subst h; rw [e]; have q := l_rf x; simp [q.1, q.2]
  · rw [e]; have q := l_asym h; simp [q.1, q.2.1, q.2.2.1, q.2.2.2, h]
theorem G_lcmp_ge {x y : Int64} {off : Int} (tgt : Nat) (d : decode μ.2.1 pc = .ok (.lcmp, 1)) (d2 : decode μ.2.1 (pc + 1) = .ok (.ifCond .ge off, 3)) (ht : ((pc + 1 : Nat) : Int) + off = (tgt : Int)) (kt : y ≤ x → GG μ κ ω A Q ad ce sl tgt w lv st) (kf : ¬ y ≤ x → GG μ κ ω A Q ad ce sl (pc + 1 + 3) w lv st) : GG μ κ ω A Q ad ce sl pc w lv (.long y :: .long x :: st) :=
  G_lcmp d (G_if_ge tgt d2 ht (fun c => kt ((lc_ge x y).mp c)) (fun c => kf (fun n => c ((lc_ge x y).mpr n))))
theorem lc_gt (x y : Int64) : (0 < lg_cmp x y) ↔ (y < x) := by
  rcases lc_cases x y with ⟨h, e⟩ | ⟨h, e⟩ | ⟨h, e⟩
  · rw [e]; have q := l_asym h; have q2 : ¬ y = x := q.2.1; have q3 : ¬ x = y := fun z => q2 z.symm; simp [q.1, q.2.2.1, q.2.2.2, q2, q3, h]
  · subst h; rw [e]; have q := l_rf x; simp [q.1, q.2]
  · rw [e]; have q := l_asym h; simp [q.1, q.2.1, q.2.2.1, q.2.2.2, h]
theorem G_lcmp_gt {x y : Int64} {off : Int} (tgt : Nat) (d : decode μ.2.1 pc = .ok (.lcmp, 1)) (d2 : decode μ.2.1 (pc + 1) = .ok (.ifCond .gt off, 3)) (ht : ((pc + 1 : Nat) : Int) + off = (tgt : Int)) (kt : y < x → GG μ κ ω A Q ad ce sl tgt w lv st) (kf : ¬ y < x → GG μ κ ω A Q ad ce sl (pc + 1 + 3) w lv st) : GG μ κ ω A Q ad ce sl pc w lv (.long y :: .long x :: st) :=
  G_lcmp d (G_if_gt tgt d2 ht (fun c => kt ((lc_gt x y).mp c)) (fun c => kf (fun n => c ((lc_gt x y).mpr n))))
theorem lc_le (x y : Int64) : (lg_cmp x y ≤ 0) ↔ (x ≤ y) := by
  rcases lc_cases x y with ⟨h, e⟩ | ⟨h, e⟩ | ⟨h, e⟩
  · rw [e]; have q := l_asym h; have q2 : ¬ y = x := q.2.1; have q3 : ¬ x = y := fun z => q2 z.symm; simp [q.1, q.2.2.1, q.2.2.2, q2, q3, h]
  · subst h; rw [e]; have q := l_rf x; simp [q.1, q.2]
  · rw [e]; have q := l_asym h; simp [q.1, q.2.1, q.2.2.1, q.2.2.2, h]
theorem G_lcmp_le {x y : Int64} {off : Int} (tgt : Nat) (d : decode μ.2.1 pc = .ok (.lcmp, 1)) (d2 : decode μ.2.1 (pc + 1) = .ok (.ifCond .le off, 3)) (ht : ((pc + 1 : Nat) : Int) + off = (tgt : Int)) (kt : x ≤ y → GG μ κ ω A Q ad ce sl tgt w lv st) (kf : ¬ x ≤ y → GG μ κ ω A Q ad ce sl (pc + 1 + 3) w lv st) : GG μ κ ω A Q ad ce sl pc w lv (.long y :: .long x :: st) :=
  G_lcmp d (G_if_le tgt d2 ht (fun c => kt ((lc_le x y).mp c)) (fun c => kf (fun n => c ((lc_le x y).mpr n))))
theorem G_tswIn {dflt lo hi : Int} {offs : Array Int} {len : Nat} {x : Int32} {off : Int} (c : Int32) (tgt : Nat) (hx : x = c) (d : decode μ.2.1 pc = .ok (.tableswitch dflt lo hi offs, len)) (h1 : ¬ c.toInt < lo) (h2 : ¬ hi < c.toInt) (ho : offs[(c.toInt - lo).toNat]? = some off) (ht : (pc : Int) + off = (tgt : Int)) (k : GG μ κ ω A Q ad ce sl tgt w lv st) : GG μ κ ω A Q ad ce sl pc w lv (.int x :: st) := by
  subst hx
  exact k.mv fun X H locs ls _ k => lv_tableIn X.1 X.2.1 d h1 h2 ho ht k
theorem G_tswOut {dflt lo hi : Int} {offs : Array Int} {len : Nat} {x : Int32} (tgt : Nat) (cs : List Int32) (hc : ∀ i : Nat, i < (hi - lo + 1).toNat → (cs.map (fun c => c.toInt))[i]? = some (lo + i)) (hx : ∀ c ∈ cs, ¬ x = c) (d : decode μ.2.1 pc = .ok (.tableswitch dflt lo hi offs, len)) (ht : (pc : Int) + dflt = (tgt : Int)) (k : GG μ κ ω A Q ad ce sl tgt w lv st) : GG μ κ ω A Q ad ce sl pc w lv (.int x :: st) := by
  refine k.mv fun X H locs ls _ k => lv_tableOut X.1 X.2.1 d ?_ ht k
  refine Classical.byContradiction fun h => ?_
  have h1 : lo ≤ x.toInt := by omega
  have h2 : x.toInt ≤ hi := by omega
  have h3 := hc (x.toInt - lo).toNat (by omega)
  rw [List.getElem?_map] at h3
  cases hg : cs[(x.toInt - lo).toNat]? with
  | none => rw [hg] at h3; cases h3
  | some c =>
    rw [hg] at h3
    have h4 : c.toInt = lo + ((x.toInt - lo).toNat : Int) := by simpa using h3
    refine hx c (List.mem_of_getElem? hg) (Int32.toInt_inj.mp ?_)
    omega
-- arrays
def rdI (n : Nat) (f : Nat → Int32) (i : Int32) : Option Int32 := if i < 0 ∨ n ≤ i.toNatClampNeg then none else some (f i.toNatClampNeg)
def wrI (n : Nat) (f : Nat → Int32) (i x : Int32) : Option (Nat → Int32) := if i < 0 ∨ n ≤ i.toNatClampNeg then none else some (upd f i.toNatClampNeg x)
def rdL (n : Nat) (f : Nat → Int64) (i : Int32) : Option Int64 := if i < 0 ∨ n ≤ i.toNatClampNeg then none else some (f i.toNatClampNeg)
def wrL (n : Nat) (f : Nat → Int64) (i : Int32) (x : Int64) : Option (Nat → Int64) := if i < 0 ∨ n ≤ i.toNatClampNeg then none else some (vp_updL f i.toNatClampNeg x)
def wrZ (n : Nat) (f : Nat → Int32) (i x : Int32) : Option (Nat → Int32) := if i < 0 ∨ n ≤ i.toNatClampNeg then none else some (upd f i.toNatClampNeg (vp_nar .boolean x))
theorem if_o {c : Prop} [Decidable c] {α : Type} {x y : α} (h : (if c then none else some x) = some y) : ¬ c ∧ x = y := by
  by_cases hc : c
  · rw [if_pos hc] at h; cases h
  · rw [if_neg hc] at h; exact ⟨hc, Option.some.inj h⟩
theorem G_iald {q n : Nat} {f : Nat → Int32} {i v : Int32} (d : decode μ.2.1 pc = .ok (.iaload, 1)) (hc : w[q]? = some (.inl (0, n, .inl f))) (hr : rdI n f i = some v) (k : GG μ κ ω A Q ad ce sl (pc + 1) w lv (.int v :: st)) : GG μ κ ω A Q ad ce sl pc w lv (.int i :: .ref q :: st) := by
  intro X H locs ls hP hD hS hl
  obtain ⟨h1, h2⟩ := if_o hr
  subst h2
  exact va_iald X.1 X.2.1 X.2.2.2.2.2.1 hP q 0 (eW_at hc) rfl h1 d (k X H locs ls hP hD hS hl)
theorem G_lald {q n : Nat} {f : Nat → Int64} {i : Int32} {v : Int64} (d : decode μ.2.1 pc = .ok (.laload, 1)) (hc : w[q]? = some (.inl (1, n, .inr (.inl f)))) (hr : rdL n f i = some v) (k : GG μ κ ω A Q ad ce sl (pc + 1) w lv (.long v :: st)) : GG μ κ ω A Q ad ce sl pc w lv (.int i :: .ref q :: st) := by
  intro X H locs ls hP hD hS hl
  obtain ⟨h1, h2⟩ := if_o hr
  subst h2
  exact va_lald X.1 X.2.1 X.2.2.2.2.2.1 hP q 1 (eW_at hc) rfl h1 d (k X H locs ls hP hD hS hl)
theorem G_zald {q n : Nat} {f : Nat → Int32} {i v : Int32} (d : decode μ.2.1 pc = .ok (.baload, 1)) (hc : w[q]? = some (.inl (2, n, .inl f))) (hr : rdI n f i = some v) (k : GG μ κ ω A Q ad ce sl (pc + 1) w lv (.int v :: st)) : GG μ κ ω A Q ad ce sl pc w lv (.int i :: .ref q :: st) := by
  intro X H locs ls hP hD hS hl
  obtain ⟨h1, h2⟩ := if_o hr
  subst h2
  exact va_zald X.1 X.2.1 X.2.2.2.2.2.1 hP q 2 (eW_at hc) rfl h1 d (k X H locs ls hP hD hS hl)
theorem G_iast {q n : Nat} {f g : Nat → Int32} {i x : Int32} {w2 : List mE} (d : decode μ.2.1 pc = .ok (.iastore, 1)) (hc : w[q]? = some (.inl (0, n, .inl f))) (hr : wrI n f i x = some g) (hw : w.set q (.inl (0, n, .inl g)) = w2) (k : GG μ κ ω A Q ad ce sl (pc + 1) w2 lv st) : GG μ κ ω A Q ad ce sl pc w lv (.int x :: .int i :: .ref q :: st) := by
  intro X H locs ls hP hD hS hl
  obtain ⟨h1, h2⟩ := if_o hr
  subst h2; subst hw
  refine va_iast X.1 X.2.1 X.2.2.2.2.2.1 hP hD hS q 0 (eW_at hc) rfl h1 d (fun H1 locs1 hP1 hD1 hS1 => k X H1 locs1 ls ?_ ?_ hS1 hl)
  · rw [← eW_set]; exact hP1
  · rw [← eW_set]; exact hD1
theorem G_last {q n : Nat} {f g : Nat → Int64} {i : Int32} {x : Int64} {w2 : List mE} (d : decode μ.2.1 pc = .ok (.lastore, 1)) (hc : w[q]? = some (.inl (1, n, .inr (.inl f)))) (hr : wrL n f i x = some g) (hw : w.set q (.inl (1, n, .inr (.inl g))) = w2) (k : GG μ κ ω A Q ad ce sl (pc + 1) w2 lv st) : GG μ κ ω A Q ad ce sl pc w lv (.long x :: .int i :: .ref q :: st) := by
  intro X H locs ls hP hD hS hl
  obtain ⟨h1, h2⟩ := if_o hr
  subst h2; subst hw
  refine va_last X.1 X.2.1 X.2.2.2.2.2.1 hP hD hS q 1 (eW_at hc) rfl h1 d (fun H1 locs1 hP1 hD1 hS1 => k X H1 locs1 ls ?_ ?_ hS1 hl)
  · rw [← eW_set]; exact hP1
  · rw [← eW_set]; exact hD1
theorem G_zast {q n : Nat} {f g : Nat → Int32} {i x : Int32} {w2 : List mE} (d : decode μ.2.1 pc = .ok (.bastore, 1)) (hc : w[q]? = some (.inl (2, n, .inl f))) (hr : wrZ n f i x = some g) (hw : w.set q (.inl (2, n, .inl g)) = w2) (k : GG μ κ ω A Q ad ce sl (pc + 1) w2 lv st) : GG μ κ ω A Q ad ce sl pc w lv (.int x :: .int i :: .ref q :: st) := by
  intro X H locs ls hP hD hS hl
  obtain ⟨h1, h2⟩ := if_o hr
  subst h2; subst hw
  refine va_zast X.1 X.2.1 X.2.2.2.2.2.1 hP hD hS q 2 (eW_at hc) rfl h1 d (fun H1 locs1 hP1 hD1 hS1 => k X H1 locs1 ls ?_ ?_ hS1 hl)
  · rw [← eW_set]; exact hP1
  · rw [← eW_set]; exact hD1
theorem G_alenI {q n : Nat} {f : Nat → Int32} (v : Int32) (d : decode μ.2.1 pc = .ok (.arraylength, 1)) (hc : w[q]? = some (.inl (0, n, .inl f))) (hv : Int32.ofNat n = v) (k : GG μ κ ω A Q ad ce sl (pc + 1) w lv (.int v :: st)) : GG μ κ ω A Q ad ce sl pc w lv (.ref q :: st) := by
  intro X H locs ls hP hD hS hl
  exact va_alen X.1 X.2.1 X.2.2.2.2.2.1 hP q 0 (eW_at hc) rfl hv d (k X H locs ls hP hD hS hl)
-- read-only arrays and statics
theorem G_tald {z n : Nat} {f : Nat → Int32} {i v : Int32} (d : decode μ.2.1 pc = .ok (.iaload, 1)) (hc : (z, n, f) ∈ μ.2.2.2.2.2.1) (hr : rdI n f i = some v) (k : GG μ κ ω A Q ad ce sl (pc + 1) w lv (.int v :: st)) : GG μ κ ω A Q ad ce sl pc w lv (.int i :: .ref z :: st) := by
  intro X H locs ls hP hD hS hl
  obtain ⟨h1, h2⟩ := if_o hr
  subst h2
  exact va_ti X.1 X.2.1 (X.2.2.2.2.2.2.2.2.2.2.1 _ hc) hS h1 rfl d (k X H locs ls hP hD hS hl)
theorem G_gets {C n : String} {z idx : Nat} (d : decode μ.2.1 pc = .ok (.getstatic idx, 3)) (hc : (C, n, z) ∈ μ.2.2.2.2.2.2) (hk : Cond.fieldLink μ.1.cls idx C n "[I" ∈ ALLW) (k : GG μ κ ω A Q ad ce sl (pc + 3) w lv (.ref z :: st)) : GG μ κ ω A Q ad ce sl pc w lv st := by
  intro X H locs ls hP hD hS hl
  exact va_gets X.1 X.2.1 (X.2.2.2.2.2.2.2.2.2.2.2 _ hc) hS X.2.2.2.1 (X.2.2.2.2.1 _ hk) (fun _ h => h) d (k X H locs ls hP hD hS hl)
-- fields
def FLD (own : String) (idx ci k : Nat) (ty : FieldType) (fin : Bool) : Prop :=
  ∃ (C : String) (T : u_T) (N : Nat) (ty0 : Nat → FieldType), vwCl[ci]? = some (C, T, N) ∧ k < N ∧ (∀ w ∈ u_ws C T N, w ∈ ALLW) ∧ Cond.fieldLink own idx (T k).1 (T k).2.1 (T k).2.2.1 ∈ ALLW ∧ (∀ k, k < N → parseFieldDescriptor (T k).2.2.1 = some (ty0 k)) ∧ ty0 k = ty ∧ (∀ a, a < N → ∀ b, b < N → a ≠ b → (T a).2.1 ≠ (T b).2.1) ∧ (T k).2.2.2 = fin
theorem G_get {q ci k idx : Nat} {fs : List Value} {ty : FieldType} {fin : Bool} {v : Value} (F : FLD μ.1.cls idx ci k ty fin) (d : decode μ.2.1 pc = .ok (.getfield idx, 3)) (hc : w[q]? = some (.inr (ci, fs))) (hv : fs[k]? = some v) (kk : GG μ κ ω A Q ad ce sl (pc + 3) w lv (v :: st)) : GG μ κ ω A Q ad ce sl pc w lv (.ref q :: st) := by
  intro X H locs ls hP hD hS hl
  obtain ⟨C, T, N, ty0, f1, f2, f3, f4, f5, f6, f7, f8⟩ := F
  exact va_get (v := eV ad v) (fs := fs.map (eV ad)) X.1 X.2.1 X.2.2.2.2.1 f3 X.2.2.2.1 X.2.2.2.2.2.1 hP q (eW_at hc) f1 k f2 (X.2.2.2.2.1 _ f4) (fun _ h => h) (by rw [List.getElem?_map, hv]; rfl) d (kk X H locs ls hP hD hS hl)
theorem G_put {q ci k idx : Nat} {fs : List Value} {ty : FieldType} {v : Value} {w2 : List mE} (F : FLD μ.1.cls idx ci k ty false) (d : decode μ.2.1 pc = .ok (.putfield idx, 3)) (hc : w[q]? = some (.inr (ci, fs))) (hn : narrow ty (eV ad v) = eV ad v) (hf : fits ty (eV ad v) = true) (hk : k < fs.length) (hw : w.set q (.inr (ci, fs.set k v)) = w2) (kk : GG μ κ ω A Q ad ce sl (pc + 3) w2 lv st) : GG μ κ ω A Q ad ce sl pc w lv (v :: .ref q :: st) := by
  intro X H locs ls hP hD hS hl
  obtain ⟨C, T, N, ty0, f1, f2, f3, f4, f5, f6, f7, f8⟩ := F
  subst hw
  have hmap : (fs.map (eV ad)).set k (eV ad v) = (fs.set k v).map (eV ad) := by rw [List.map_set]
  refine va_put (v := eV ad v) (fs := fs.map (eV ad)) X.1 X.2.1 X.2.2.2.2.1 f3 ty0 f5 f7 X.2.2.2.1 X.2.2.2.2.2.1 hP hD hS q (eW_at hc) f1 k f2 (X.2.2.2.2.1 _ f4) (fun _ h => h) f8 (ty := ty) (by rw [f5 k f2, f6]) hn hf (by rw [List.length_map]; exact hk) d (fun H1 locs1 hP1 hD1 hS1 => kk X H1 locs1 ls ?_ ?_ hS1 hl)
  · rw [← eW_set]; rw [hmap] at hP1; exact hP1
  · rw [← eW_set]; rw [hmap] at hD1; exact hD1
end GGB
theorem ob {α β : Type} {o : Option α} {k : α → Option β} {r : β} (h : o.bind k = some r) : ∃ v, o = some v ∧ k v = some r := by
  cases o with
  | none => cases h
  | some v => exact ⟨v, rfl, h⟩
theorem ob_t {α : Type} {c : Prop} [Decidable c] {a b r : α} (h : c) (hf : (if c then a else b) = r) : a = r := by rw [if_pos h] at hf; exact hf
theorem ob_f {α : Type} {c : Prop} [Decidable c] {a b r : α} (h : ¬ c) (hf : (if c then a else b) = r) : b = r := by rw [if_neg h] at hf; exact hf
theorem ob_n {c : Prop} [Decidable c] {α : Type} {a b r : α} (h : c) (hf : (if ¬ c then a else b) = r) : b = r := by rw [if_neg (fun n => n h)] at hf; exact hf
theorem ob_0 {α : Type} {r : α} {P : Prop} (h : (none : Option α) = some r) : P := by cases h
