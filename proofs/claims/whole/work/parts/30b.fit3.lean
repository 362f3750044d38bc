theorem pkm_get {w : List mE} {is : List Nat} (h : is.all (fun i => decide (i < w.length)) = true) {j k : Nat} (hj : is[j]? = some k) : (pkm w is)[j]? = w[k]? := by
  have h1 := pkm_ok w is h
  have h2 : (is.map (fun i => w[i]?))[j]? = ((pkm w is).map some)[j]? := by rw [h1]
  rw [List.getElem?_map, List.getElem?_map, hj] at h2
  cases hp : (pkm w is)[j]? with
  | none => rw [hp] at h2; cases h2
  | some c => rw [hp] at h2; exact (Option.some.inj h2).symm
theorem Fit2.mk3 {w wc wc2 w2 : List mE} {is vs : List Nat} (n : Nat) (isR : List Nat) (h1 : pkm w is = wc.map (rn1 is vs)) (hi : pkm w2 is = wc2.map (rn1 is vs)) (ho : pkm w2 isR = pkm w isR) (hw : w.length = n) (hw2 : w2.length = n) (h8 : wc2.length = is.length) (hn : is.Nodup)
    (hb : (is.all (fun i => decide (i < n)) && isR.all (fun i => decide (i < n)) && va_nd is && decide (is.length ≤ 1000) && (List.range n).all (fun k => decide (k ∈ is) || decide (k ∈ isR))) = true) : Fit2 w wc wc2 w2 is vs := by
  simp only [Bool.and_eq_true, decide_eq_true_eq] at hb
  obtain ⟨⟨⟨⟨b1, b2⟩, b3⟩, b4⟩, b5⟩ := hb
  have a1 : is.all (fun i => decide (i < w.length)) = true := by rw [hw]; exact b1
  have a2 : isR.all (fun i => decide (i < w.length)) = true := by rw [hw]; exact b2
  have a3 : is.all (fun i => decide (i < w2.length)) = true := by rw [hw2]; exact b1
  have a4 : isR.all (fun i => decide (i < w2.length)) = true := by rw [hw2]; exact b2
  have hlt : ∀ i ∈ is, i < w.length := fun i hi => by simpa using (List.all_eq_true.mp a1) i hi
  refine ⟨h1, a1, hn, b3, b4, h8, List.ext_getElem? fun k => ?_⟩
  rcases Nat.lt_or_ge k n with hk | hk
  · have hkk := (List.all_eq_true.mp b5) k (List.mem_range.mpr hk)
    by_cases hin : k ∈ is
    · obtain ⟨j, hj⟩ := List.getElem?_of_mem hin
      have hjl : j < wc2.length := by
        rw [List.getElem?_eq_some_iff] at hj
        rw [h8]; exact hj.1
      have hcj : wc2[j]? = some wc2[j] := List.getElem?_eq_getElem hjl
      rw [over_in is w (wc2.map (rn1 is vs)) j k (rn1 is vs wc2[j]) hn hlt hj (by rw [List.getElem?_map, hcj]; rfl)]
      rw [← pkm_get a3 hj, hi, List.getElem?_map, hcj]
      rfl
    · have hin2 : k ∈ isR := by
        rw [Bool.or_eq_true, decide_eq_true_eq, decide_eq_true_eq] at hkk
        rcases hkk with z | z
        · exact absurd z hin
        · exact z
      obtain ⟨j, hj⟩ := List.getElem?_of_mem hin2
      rw [over_out is w _ k hin, ← pkm_get a2 hj, ← pkm_get a4 hj, ho]
  · rw [List.getElem?_eq_none (by rw [over_len, hw]; exact hk), List.getElem?_eq_none (by rw [hw2]; exact hk)]
