/-! calls from a method that has made cells -/
section CALLG
variable {μ μ2 : KM} {κ : KC} {ω : KW} {A : Nat → Prop} {Q : State → Prop} {ad : Nat → Nat} {ce sl pc : Nat} {w wc wc2 w2 : List mE} {lv : List (Option Value)} {st rest : List Value} {As rv : List Value} {r : Option Value}
theorem G_backg {is vs isR pm : List Nat} {p : Program} {l : Launch} {e : Env} {R : Room} {s : State} {m : MethodId} {args : Array Value} {below : List Frame} {meth : Method} {c : Code} {H : Heap} {locs : List Loc} {ls : Array Slot} {st0 rst : List Value} {a : Array Value}
    (F : Fit ω ad w wc wc2 w2 is vs isR pm) (hP : va_P (ω.1, ω.2.1) vwCl (eW ω.2.2 ad w) H) (hD : va_D A (eW ω.2.2 ad w)) (hS : va_S A s.heap H locs) (hA : ∀ q, s.heap.size ≤ q → A q)
    (hr : va_Run p l e R s m args below meth c H locs ce sl 0 0 (F0 m pc ls st0) rst (rsQ ω (va_A (eW ω.2.2 (rh ad is vs) wc) H.size) (rh ad is vs) r wc2 a) (va_A (eW ω.2.2 (rh ad is vs) wc) H.size))
    (kk : ∀ (H1 : Heap) (locs1 : List Loc), va_P (ω.1, ω.2.1) vwCl (eW ω.2.2 ad w2) H1 → va_D A (eW ω.2.2 ad w2) → va_S A s.heap H1 locs1 → W p l e R s m args below meth c H1 locs1 ce sl Q (F0 m (pc + 3) ls ((r.map (eV (rh ad is vs))).toList ++ rst))) :
    W p l e R s m args below meth c H locs ce sl Q (F0 m pc ls st0) := by
  obtain ⟨f1, f2, f3, f4, f5, f6, f8, f9, f7⟩ := F
  have hin : ∀ js : List Nat, js.all (fun i => decide (i < w.length)) = true → js.all (fun i => decide (i < (eW ω.2.2 ad w).length)) = true := fun js h => by rw [eWf_len]; exact h
  have hc1 : is.map (fun i => (eW ω.2.2 ad w)[i]?) = (eW ω.2.2 (rh ad is vs) wc).map some := by rw [← f1]; exact pk_ok _ _ (hin is f2)
  have hc2 := pk_ok (eW ω.2.2 ad w) isR (hin isR f3)
  have hfree := va_free (wc := eW ω.2.2 (rh ad is vs) wc) hD hS hA is hc1
  intro T hT X
  obtain ⟨v, st₀, t, T', L, h0, X', hL, e1, e2, ⟨⟨hv, hP1, hD1⟩, hz, hk⟩, stp⟩ := hr T hT X
  have hv2 : v = r.map (eV (rh ad is vs)) := by injection hv
  subst hv2
  rw [h0] at hz hk
  obtain ⟨hP2, hD2⟩ := va_join hP hD is isR hc1 hc2 f4 f5 (H1 := t.heap) hk hfree hP1 hD1
  have hP3 := hP2.sub (ws' := eW ω.2.2 ad w2) pm f7
  have hlen : (pk (eW ω.2.2 ad w) isR ++ eW ω.2.2 (rh ad is vs) wc2).length = isR.length + wc2.length := by
    have h := congrArg List.length hc2
    rw [List.length_map, List.length_map] at h
    rw [List.length_append, eWf_len, ← h]
  have hc3 := pk_ok (pk (eW ω.2.2 ad w) isR ++ eW ω.2.2 (rh ad is vs) wc2) pm (by rw [hlen]; exact f9)
  rw [f7] at hc3
  have hD3 := hD2.sub (ws' := eW ω.2.2 ad w2) pm f6 hc3
  obtain ⟨t2, a1, b1⟩ := kk T'.heap (locs ++ L) (by rw [e1]; exact hP3) hD3
    ⟨Nat.le_trans hS.1 (by rw [e1]; exact hz), fun q h1 h2 => by rw [e1, hk q (Nat.lt_of_lt_of_le h1 hS.1) (fun z => h2 (hfree q z))]; exact hS.2.1 q h1 h2, fun q hq => by
      rcases List.mem_append.mp hq with h | h
      · exact hS.2.2 q h
      · exact hfree _ (hL q h)⟩ T' rfl X'
  exact ⟨t2, stp t2 a1, b1⟩
theorem G_callVg {n idx ci : Nat} {fs : List Value} (hcs : ce ≤ μ.2.2.2.2.1.cells ∧ sl ≤ μ.2.2.2.2.1.slots) (is vs isR pm : List Nat) (hcon : Con μ2 (.ref 0 :: As) wc r wc2) (hw : CWv μ2 n) (hlk : Cond.methodLink μ.1.cls idx μ2.1 ∈ ALLW) (d : decode μ.2.1 pc = .ok (.invokevirtual idx, 3)) (hn : As.length = n)
    (hR : μ2.2.2.2.2.1.frames + 1 ≤ μ.2.2.2.2.1.frames ∧ 8 + (μ2.2.2.1 + 11) + μ2.2.2.2.2.1.locals ≤ μ.2.2.2.2.1.locals) (hz : μ2.2.2.2.2.1.cells = 0 ∧ μ2.2.2.2.2.1.slots = 0) (hc : wc[0]? = some (.inr (ci, fs))) (hci : ∃ q, vwCl[ci]? = some q ∧ q.1 = μ2.1.cls)
    (F : Fit ω ad w wc wc2 w2 is vs isR pm) (hst : st.map (eV ad) = (As.map (eV (rh ad is vs))).reverse ++ .ref (rh ad is vs 0) :: rest.map (eV ad)) (hcat : (rest.map fun v => v.category).sum ≤ 8) (hro : ROsub μ μ2 ad (rh ad is vs)) (hrv : (r.map (eV (rh ad is vs))).toList = rv.map (eV ad))
    (kk : GG μ κ ω A Q ad ce sl (pc + 3) w2 lv (rv ++ rest)) : GG μ κ ω A Q ad ce sl pc w lv st := by
  intro X H locs ls hP hD hS hl
  obtain ⟨hpre, hPc⟩ := G_pre (μ2 := μ2) (av := .ref 0 :: As) X F hP hD hS hro
  obtain ⟨q, hq, hqc⟩ := hci
  have hrecv := va_recv (s := κ.2.2.2.1) (q0 := 0) (fs := fs.map (eV (rh ad is vs))) X.2.2.2.2.2.1 hPc hq (eW_at hc)
  rw [hqc] at hrecv
  refine G_backg (r := r) F hP hD hS X.2.2.2.2.2.2.1 (a := (Value.ref (rh ad is vs 0) :: As.map (eV (rh ad is vs))).toArray) (rst := rest.map (eV ad)) ?_ (fun H1 locs1 hP1 hD1 hS1 => ?_)
  · exact va_runV (As := As.map (eV (rh ad is vs))) (b := rh ad is vs 0) (rest := rest.map (eV ad)) ⟨X.1, X.2.1, X.2.2.1, X.2.2.2.1, X.2.2.2.2.1⟩ (hcon κ.2.1 ω (rh ad is vs) H.size) (cwV n X.2.2.2.2.1 (hw.good hlk) rfl hz.1 hz.2 ⟨rfl, hw.1.2.2⟩ hR)
      ⟨fun a U g mk q => by obtain ⟨q0, q1, qP, qK, qD, qR⟩ := q; exact ⟨q0, q1, qP, va_K.moved (u := U) (U := U.calling g mk a) (Vm.Alike.refl U.vm) qK, qD, RO.moved (u := U) (U := U.calling g mk a) (Vm.Alike.refl U.vm) qR⟩, hrecv, hpre⟩
      rfl (by rw [List.length_map]; exact hn) hl.1 hst (lv_room (by rw [cat_map]; exact hcat)) d hcs
  · have := kk X H1 locs1 ls hP1 hD1 hS1 hl
    rw [List.map_append, ← hrv] at this
    exact this
theorem G_talen {z n : Nat} {f : Nat → Int32} (d : decode μ.2.1 pc = .ok (.arraylength, 1)) (hc : (z, n, f) ∈ μ.2.2.2.2.2.1) (k : GG μ κ ω A Q ad ce sl (pc + 1) w lv (.int (Int32.ofNat n) :: st)) : GG μ κ ω A Q ad ce sl pc w lv (.ref z :: st) := by
  intro X H locs ls hP hD hS hl
  exact va_tlen X.1 X.2.1 (X.2.2.2.2.2.2.2.2.2.2.1 _ hc) hS rfl d (k X H locs ls hP hD hS hl)
end CALLG
