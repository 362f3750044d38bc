/-! calls from a large world: what comes back is laid over the old cells in their places -/
def rv1 (is vs : List Nat) : Value → Value
  | .ref j => .ref (if j < 1000 then is.getD j 0 else vs.getD (j - 1000) 0)
  | v => v
def rn1 (is vs : List Nat) : mE → mE
  | .inl q => .inl q
  | .inr q => .inr (q.1, q.2.map (rv1 is vs))
def pkm (w : List mE) (is : List Nat) : List mE := is.filterMap (fun i => w[i]?)
def over : List mE → List Nat → List mE → List mE
  | w, i :: is, c :: cs => over (w.set i c) is cs
  | w, _, _ => w
theorem eV_rv1 (ad : Nat → Nat) (is vs : List Nat) (v : Value) : eV ad (rv1 is vs v) = eV (rh ad is vs) v := by
  cases v with
  | ref j =>
    show Value.ref (ad (if j < 1000 then is.getD j 0 else vs.getD (j - 1000) 0)) = Value.ref (if j < 1000 then ad (is.getD j 0) else ad (vs.getD (j - 1000) 0))
    split <;> rfl
  | _ => rfl
theorem eE_rn1 (cA : Nat → ClassId) (ad : Nat → Nat) (is vs : List Nat) (c : mE) : eE cA ad (rn1 is vs c) = eE cA (rh ad is vs) c := by
  cases c with
  | inl q => rfl
  | inr q =>
    show (Sum.inr (q.1, (q.2.map (rv1 is vs)).map (eV ad)) : va_E) = Sum.inr (q.1, q.2.map (eV (rh ad is vs)))
    rw [List.map_map]
    congr 2
    exact List.map_congr_left (fun v _ => eV_rv1 ad is vs v)
theorem pkm_ok (w : List mE) : ∀ (is : List Nat), is.all (fun i => decide (i < w.length)) = true → is.map (fun i => w[i]?) = (pkm w is).map some
  | [], _ => rfl
  | i :: t, h => by
    rw [List.all_cons, Bool.and_eq_true] at h
    have hi : i < w.length := by simpa using h.1
    have ih := pkm_ok w t h.2
    unfold pkm at ih ⊢
    rw [List.map_cons, List.filterMap_cons, List.getElem?_eq_getElem hi]
    simp [ih]
theorem over_len : ∀ (is : List Nat) (w cs : List mE), (over w is cs).length = w.length
  | [], w, cs => by cases cs <;> rfl
  | i :: is, w, [] => rfl
  | i :: is, w, c :: cs => by rw [over, over_len is, List.length_set]
theorem over_out : ∀ (is : List Nat) (w cs : List mE) (k : Nat), k ∉ is → (over w is cs)[k]? = w[k]?
  | [], w, cs, k, _ => by cases cs <;> rfl
  | i :: is, w, [], k, _ => rfl
  | i :: is, w, c :: cs, k, h => by
    rw [over, over_out is _ _ k (fun q => h (List.mem_cons_of_mem _ q)), List.getElem?_set_ne (fun q => h (by rw [q]; exact List.mem_cons_self))]
theorem over_in : ∀ (is : List Nat) (w cs : List mE) (j k : Nat) (c : mE), is.Nodup → (∀ i ∈ is, i < w.length) → is[j]? = some k → cs[j]? = some c → (over w is cs)[k]? = some c
  | [], w, cs, j, k, c, _, _, h, _ => by simp at h
  | i :: is, w, [], j, k, c, _, _, _, h => by simp at h
  | i :: is, w, d :: cs, 0, k, c, hn, hl, h1, h2 => by
    have e1 : i = k := by simpa using h1
    have e2 : d = c := by simpa using h2
    subst e1; subst e2
    rw [over, over_out is _ _ i (List.nodup_cons.mp hn).1, List.getElem?_set_self (hl i List.mem_cons_self)]
  | i :: is, w, d :: cs, j + 1, k, c, hn, hl, h1, h2 => by
    rw [over]
    exact over_in is _ cs j k c (List.nodup_cons.mp hn).2 (fun q hq => by rw [List.length_set]; exact hl q (List.mem_cons_of_mem _ hq)) (by simpa using h1) (by simpa using h2)
theorem nd_nodup : ∀ {is : List Nat}, is.Nodup → va_nd is = true → True := fun _ _ => trivial
def Fit2 (w wc wc2 w2 : List mE) (is vs : List Nat) : Prop :=
  pkm w is = wc.map (rn1 is vs) ∧ is.all (fun i => decide (i < w.length)) = true ∧ is.Nodup ∧ va_nd is = true ∧ is.length ≤ 1000 ∧ wc2.length = is.length ∧ over w is (wc2.map (rn1 is vs)) = w2
theorem Fit2.mk {w wc wc2 w2 : List mE} {is vs : List Nat} (h1 : pkm w is = wc.map (rn1 is vs)) (h7 : over w is (wc2.map (rn1 is vs)) = w2) (h8 : wc2.length = is.length) (hn : is.Nodup) (h : (is.all (fun i => decide (i < w.length)) && va_nd is && decide (is.length ≤ 1000)) = true) : Fit2 w wc wc2 w2 is vs := by
  simp only [Bool.and_eq_true, decide_eq_true_eq] at h
  exact ⟨h1, h.1.1, hn, h.1.2, h.2, h8, h7⟩
section OVER
variable {μ μ2 : KM} {κ : KC} {ω : KW} {A : Nat → Prop} {Q : State → Prop} {ad : Nat → Nat} {ce sl pc : Nat} {w wc wc2 w2 : List mE} {lv : List (Option Value)} {st rest : List Value} {As rv : List Value} {r : Option Value}
theorem Fit2.get {is vs : List Nat} (F : Fit2 w wc wc2 w2 is vs) {j : Nat} {c : mE} (h : wc[j]? = some c) : ∃ k, is[j]? = some k ∧ w[k]? = some (rn1 is vs c) ∧ rh ad is vs j = ad k := by
  obtain ⟨f1, f2, f3, f4, f5, f6, f7⟩ := F
  have h1 := pkm_ok w is f2
  rw [f1] at h1
  have h2 : (is.map (fun i => w[i]?))[j]? = some (some (rn1 is vs c)) := by
    rw [h1, List.getElem?_map, List.getElem?_map, h]; rfl
  rw [List.getElem?_map] at h2
  cases hi : is[j]? with
  | none => rw [hi] at h2; cases h2
  | some k =>
    rw [hi] at h2
    refine ⟨k, rfl, Option.some.inj h2, ?_⟩
    have hj : j < is.length := by
      rw [List.getElem?_eq_some_iff] at hi
      exact hi.1
    unfold rh
    rw [if_pos (by omega), List.getD_eq_getElem?_getD, hi]
    rfl
theorem Fit2.pke {is vs : List Nat} (F : Fit2 w wc wc2 w2 is vs) : pk (eW ω.2.2 ad w) is = eW ω.2.2 (rh ad is vs) wc := by
  have hc2 := pk_ok (eW ω.2.2 ad w) is (by rw [eWf_len]; exact F.2.1)
  refine List.ext_getElem? fun j => ?_
  have e1 : ((pk (eW ω.2.2 ad w) is).map some)[j]? = (is.map (fun i => (eW ω.2.2 ad w)[i]?))[j]? := by rw [hc2]
  rw [List.getElem?_map, List.getElem?_map] at e1
  rw [eWf_get, Nat.zero_add]
  cases hj : wc[j]? with
  | none =>
    have hlen : is.length ≤ j := by
      have h3 := congrArg List.length F.1
      have h4 := congrArg List.length (pkm_ok w is F.2.1)
      rw [List.length_map] at h3
      rw [List.length_map, List.length_map] at h4
      rw [List.getElem?_eq_none_iff] at hj
      omega
    rw [List.getElem?_eq_none hlen] at e1
    cases hp : (pk (eW ω.2.2 ad w) is)[j]? with
    | none => rfl
    | some q => rw [hp] at e1; cases e1
  | some c =>
    obtain ⟨k, g1, g2, g3⟩ := F.get (ad := ad) hj
    rw [g1] at e1
    have e2 := eW_at (cA := ω.2.2) (ad := ad) g2
    simp only [Option.map_some] at e1
    rw [e2] at e1
    cases hp : (pk (eW ω.2.2 ad w) is)[j]? with
    | none => rw [hp] at e1; cases e1
    | some q =>
      rw [hp] at e1
      simp only [Option.map_some, Option.some.injEq] at e1 ⊢
      rw [e1, g3, eE_rn1]
theorem G_backh {is vs : List Nat} {p : Program} {l : Launch} {e : Env} {R : Room} {s : State} {m : MethodId} {args : Array Value} {below : List Frame} {meth : Method} {c : Code} {H : Heap} {locs : List Loc} {ls : Array Slot} {st0 rst : List Value} {a : Array Value}
    (F : Fit2 w wc wc2 w2 is vs) (hP : va_P (ω.1, ω.2.1) vwCl (eW ω.2.2 ad w) H) (hD : va_D A (eW ω.2.2 ad w)) (hS : va_S A s.heap H locs) (hA : ∀ q, s.heap.size ≤ q → A q)
    (hr : va_Run p l e R s m args below meth c H locs ce sl 0 0 (F0 m pc ls st0) rst (rsQ ω (va_A (eW ω.2.2 (rh ad is vs) wc) H.size) (rh ad is vs) r wc2 a) (va_A (eW ω.2.2 (rh ad is vs) wc) H.size))
    (kk : ∀ (H1 : Heap) (locs1 : List Loc), va_P (ω.1, ω.2.1) vwCl (eW ω.2.2 ad w2) H1 → va_D A (eW ω.2.2 ad w2) → va_S A s.heap H1 locs1 → W p l e R s m args below meth c H1 locs1 ce sl Q (F0 m (pc + 3) ls ((r.map (eV (rh ad is vs))).toList ++ rst))) :
    W p l e R s m args below meth c H locs ce sl Q (F0 m pc ls st0) := by
  have hpk := F.pke (ω := ω) (ad := ad)
  have hget := fun (j : Nat) (c : mE) (h : wc[j]? = some c) => F.get (ad := ad) h
  obtain ⟨f1, f2, f3, f4, f5, f6, f7⟩ := F
  have hc1 : is.map (fun i => (eW ω.2.2 ad w)[i]?) = (eW ω.2.2 (rh ad is vs) wc).map some := by rw [← hpk]; exact pk_ok _ _ (by rw [eWf_len]; exact f2)
  have hfree := va_free (wc := eW ω.2.2 (rh ad is vs) wc) hD hS hA is hc1
  have hlt : ∀ i ∈ is, i < w.length := fun i hi => by simpa using (List.all_eq_true.mp f2) i hi
  have hlen : w2.length = w.length := by rw [← f7, over_len]
  intro T hT X
  obtain ⟨v, st₀, t, T', L, h0, X', hL, e1, e2, ⟨⟨hv, hP1, hD1⟩, hz, hk⟩, stp⟩ := hr T hT X
  have hv2 : v = r.map (eV (rh ad is vs)) := by injection hv
  subst hv2
  rw [h0] at hz hk
  have hP3 : va_P (ω.1, ω.2.1) vwCl (eW ω.2.2 ad w2) t.heap := by
    intro k q hq
    rw [eWf_get, Nat.zero_add] at hq
    cases hwk : w2[k]? with
    | none => rw [hwk] at hq; cases hq
    | some c =>
      rw [hwk] at hq
      have hq2 : q = (ad k, eE ω.2.2 ad c) := by simpa using hq.symm
      subst hq2
      by_cases hin : k ∈ is
      · obtain ⟨j, hj⟩ := List.getElem?_of_mem hin
        have hjl : j < wc2.length := by
          rw [List.getElem?_eq_some_iff] at hj
          rw [f6]; exact hj.1
        have hcj : wc2[j]? = some wc2[j] := List.getElem?_eq_getElem hjl
        have hov := over_in is w (wc2.map (rn1 is vs)) j k (rn1 is vs wc2[j]) f3 hlt hj (by rw [List.getElem?_map, hcj]; rfl)
        rw [f7, hwk] at hov
        have hce : c = rn1 is vs wc2[j] := Option.some.inj hov
        have hrh : rh ad is vs j = ad k := by
          unfold rh
          rw [if_pos (by omega), List.getD_eq_getElem?_getD, hj]
          rfl
        have h9 := hP1 j (rh ad is vs j, eE ω.2.2 (rh ad is vs) wc2[j]) (by rw [eWf_get, hcj, Nat.zero_add]; rfl)
        rw [hrh] at h9
        rw [hce, eE_rn1]
        exact h9
      · have hov := over_out is w (wc2.map (rn1 is vs)) k hin
        rw [f7, hwk] at hov
        have hx := eW_at (cA := ω.2.2) (ad := ad) hov.symm
        have hv := (hP k _ hx).lt
        refine (hP k _ hx).kept (hk _ hv (fun hbad => ?_))
        rcases hbad with ⟨k2, e, h⟩ | h
        · rw [eWf_get, Nat.zero_add] at h
          cases hk2 : wc[k2]? with
          | none => rw [hk2] at h; cases h
          | some c2 =>
            obtain ⟨k3, g1, g2, g3⟩ := hget k2 c2 hk2
            rw [hk2] at h
            have h5 : rh ad is vs k2 = ad k := by
              have := Option.some.inj h
              exact (Prod.mk.inj this).1
            have h6 := hD.1 k k3 _ _ hx (eW_at (cA := ω.2.2) (ad := ad) g2) (by show ad k = ad k3; rw [← h5, g3])
            rw [h6] at hin
            exact hin (List.mem_of_getElem? g1)
        · exact absurd hv (by omega)
  have hD3 : va_D A (eW ω.2.2 ad w2) := by
    have old : ∀ (k : Nat) (q : Nat × va_E), (eW ω.2.2 ad w2)[k]? = some q → ∃ q0, (eW ω.2.2 ad w)[k]? = some q0 ∧ q0.1 = q.1 := by
      intro k q hq
      have hkl : k < w.length := by
        rw [List.getElem?_eq_some_iff] at hq
        obtain ⟨h, -⟩ := hq
        rw [eWf_len, hlen] at h
        exact h
      refine ⟨(ad k, eE ω.2.2 ad w[k]), eW_at (List.getElem?_eq_getElem hkl), ?_⟩
      rw [eWf_get, Nat.zero_add] at hq
      cases hwk : w2[k]? with
      | none => rw [hwk] at hq; cases hq
      | some c =>
        rw [hwk] at hq
        have hq2 : q = (ad k, eE ω.2.2 ad c) := by simpa using hq.symm
        rw [hq2]
    refine ⟨fun i j p q hp hq hpq => ?_, fun k q hq => ?_⟩
    · obtain ⟨p0, a1, a2⟩ := old i p hp
      obtain ⟨q0, b1, b2⟩ := old j q hq
      exact hD.1 i j p0 q0 a1 b1 (by rw [a2, b2]; exact hpq)
    · obtain ⟨q0, b1, b2⟩ := old k q hq
      rw [← b2]; exact hD.2 k q0 b1
  obtain ⟨t2, a1, b1⟩ := kk T'.heap (locs ++ L) (by rw [e1]; exact hP3) hD3
    ⟨Nat.le_trans hS.1 (by rw [e1]; exact hz), fun q h1 h2 => by rw [e1, hk q (Nat.lt_of_lt_of_le h1 hS.1) (fun z => h2 (hfree q z))]; exact hS.2.1 q h1 h2, fun q hq => by
      rcases List.mem_append.mp hq with h | h
      · exact hS.2.2 q h
      · exact hfree _ (hL q h)⟩ T' rfl X'
  exact ⟨t2, stp t2 a1, b1⟩
theorem G_callVh {n idx ci : Nat} {fs : List Value} (hcs : ce ≤ μ.2.2.2.2.1.cells ∧ sl ≤ μ.2.2.2.2.1.slots) (is vs : List Nat) (hcon : Con μ2 (.ref 0 :: As) wc r wc2) (hw : CWv μ2 n) (hlk : Cond.methodLink μ.1.cls idx μ2.1 ∈ ALLW) (d : decode μ.2.1 pc = .ok (.invokevirtual idx, 3)) (hn : As.length = n)
    (hR : μ2.2.2.2.2.1.frames + 1 ≤ μ.2.2.2.2.1.frames ∧ 8 + (μ2.2.2.1 + 11) + μ2.2.2.2.2.1.locals ≤ μ.2.2.2.2.1.locals) (hz : μ2.2.2.2.2.1.cells = 0 ∧ μ2.2.2.2.2.1.slots = 0) (hc : wc[0]? = some (.inr (ci, fs))) (hci : ∃ q, vwCl[ci]? = some q ∧ q.1 = μ2.1.cls)
    (F : Fit2 w wc wc2 w2 is vs) (hst : st.map (eV ad) = (As.map (eV (rh ad is vs))).reverse ++ .ref (rh ad is vs 0) :: rest.map (eV ad)) (hcat : (rest.map fun v => v.category).sum ≤ 8) (hro : ROsub μ μ2 ad (rh ad is vs)) (hrv : (r.map (eV (rh ad is vs))).toList = rv.map (eV ad))
    (kk : GG μ κ ω A Q ad ce sl (pc + 3) w2 lv (rv ++ rest)) : GG μ κ ω A Q ad ce sl pc w lv st := by
  intro X H locs ls hP hD hS hl
  have hpk := F.pke (ω := ω) (ad := ad)
  have hc1 : is.map (fun i => (eW ω.2.2 ad w)[i]?) = (eW ω.2.2 (rh ad is vs) wc).map some := by rw [← hpk]; exact pk_ok _ _ (by rw [eWf_len]; exact F.2.1)
  have hfree := va_free (wc := eW ω.2.2 (rh ad is vs) wc) hD hS X.2.2.2.2.2.2.1 is hc1
  have hPc : va_P (ω.1, ω.2.1) vwCl (eW ω.2.2 (rh ad is vs) wc) H := hP.sub is hpk
  have hDc := (hD.sub (ws' := eW ω.2.2 (rh ad is vs) wc) is F.2.2.2.1 hc1).weaken (B := fun _ => True) (fun _ _ _ _ => trivial)
  have hpre : ∀ U : State, U.heap = H → κ.2.2.2.1.WarmedH U.vm → va_Pc (.ref (rh ad is vs 0) :: As.map (eV (rh ad is vs))) (fun U => U.heap.size = H.size ∧ va_P (ω.1, ω.2.1) vwCl (eW ω.2.2 (rh ad is vs) wc) U.heap ∧ va_K (ω.1, ω.2.1) vwCl (mT ω.2.2) U ∧ va_D (fun _ => True) (eW ω.2.2 (rh ad is vs) wc) ∧ RO μ2.2.2.2.2.2.1 μ2.2.2.2.2.2.2 (rh ad is vs) (va_A (eW ω.2.2 (rh ad is vs) wc) H.size) U U.heap) (Value.ref (rh ad is vs 0) :: As.map (eV (rh ad is vs))).toArray U := by
    intro U hU hW
    refine ⟨rfl, by rw [hU], by rw [hU]; exact hPc, va_K.moved hW.alike X.2.2.2.2.2.1, hDc, ?_⟩
    have h1 := hro.use X.2.2.2.2.2.2.2.2.2.2
    have h2 := h1.kept (H1 := H) hS.2.1
    rw [hU]
    exact (h2.narrow hfree).moved hW.alike
  obtain ⟨q, hq, hqc⟩ := hci
  have hrecv := va_recv (s := κ.2.2.2.1) (q0 := 0) (fs := fs.map (eV (rh ad is vs))) X.2.2.2.2.2.1 hPc hq (eW_at hc)
  rw [hqc] at hrecv
  refine G_backh (r := r) F hP hD hS X.2.2.2.2.2.2.1 (a := (Value.ref (rh ad is vs 0) :: As.map (eV (rh ad is vs))).toArray) (rst := rest.map (eV ad)) ?_ (fun H1 locs1 hP1 hD1 hS1 => ?_)
  · exact va_runV (As := As.map (eV (rh ad is vs))) (b := rh ad is vs 0) (rest := rest.map (eV ad)) ⟨X.1, X.2.1, X.2.2.1, X.2.2.2.1, X.2.2.2.2.1⟩ (hcon κ.2.1 ω (rh ad is vs) H.size) (cwV n X.2.2.2.2.1 (hw.good hlk) rfl hz.1 hz.2 ⟨rfl, hw.1.2.2⟩ hR)
      ⟨fun a U g mk q => by obtain ⟨q0, q1, qP, qK, qD, qR⟩ := q; exact ⟨q0, q1, qP, va_K.moved (u := U) (U := U.calling g mk a) (Vm.Alike.refl U.vm) qK, qD, RO.moved (u := U) (U := U.calling g mk a) (Vm.Alike.refl U.vm) qR⟩, hrecv, hpre⟩
      rfl (by rw [List.length_map]; exact hn) hl.1 hst (lv_room (by rw [cat_map]; exact hcat)) d hcs
  · have := kk X H1 locs1 ls hP1 hD1 hS1 hl
    rw [List.map_append, ← hrv] at this
    exact this
end OVER
