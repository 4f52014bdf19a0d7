/-! new int[n][k] in the world of arrays -/
theorem aMna_ok (l : Launch) : aMna l := by
  intro p e R s m args below meth c H H0 locs cells slots Q cc pc index ls rest D A tys ws own n k hexec hb hown hclink hover harr hK hP hD hS hA hn hk hn2 hk2 hcells hslots hdg kk
  intro T hT Xs
  obtain ⟨vm₁, cA, comp, fA, fC, ⟨kO, hkO, hkindO⟩, ⟨kI, cc9, hkI, hkindI⟩, X', step⟩ := mStep Xs hexec hown hclink hover harr (g := F0 m pc ls (.int k :: .int n :: rest)) rfl (by rw [hb]; exact hdg) rfl hn hk hn2 hk2 hcells hslots
  obtain ⟨f1, f2, -, -, hold, hrow⟩ := mF_facts (T.setVm vm₁) cA comp n.toNatClampNeg k.toNatClampNeg n.toNatClampNeg
  generalize mF (T.setVm vm₁) cA comp n.toNatClampNeg k.toNatClampNeg n.toNatClampNeg = F at X' step f1 f2 hold hrow
  have hTh : (T.setVm vm₁).heap = H := hT
  rw [hTh] at f1 f2 hold hrow
  have hout : mO cA n.toNatClampNeg H.size n.toNatClampNeg = vp_cell cA (n.toNatClampNeg, .inr (.inr (.inr (.inr (fun i => if i < n.toNatClampNeg then some (H.size + 1 + i) else none))))) := by
    rw [vp_cell_q]
    rfl
  rw [hout] at f2
  have hlt : ∀ (k9 : Nat) (x : Nat × va_E), ws[k9]? = some x → x.1 < H.size := fun k9 x hx => (hP k9 x hx).lt
  have hP0 : va_P D vwCl ws F.heap := hP.kept (fun k9 x hx => hold x.1 ((hP k9 x hx).lt))
  generalize hnw : ((H.size, Sum.inl (cA, n.toNatClampNeg, .inr (.inr (.inr (.inr (fun i => if i < n.toNatClampNeg then some (H.size + 1 + i) else none)))))) : Nat × va_E) :: (List.range n.toNatClampNeg).map (fun i => ((H.size + 1 + i, Sum.inl (comp, k.toNatClampNeg, .inl (fun _ => 0))) : Nat × va_E)) = nw
  have hnwA : ∀ (k9 : Nat) (x : Nat × va_E), nw[k9]? = some x → x.1 = H.size + k9 ∧ va_at D vwCl x F.heap := by
    intro k9 x hx
    rw [← hnw] at hx
    cases k9 with
    | zero => cases hx; exact ⟨rfl, f2⟩
    | succ j =>
      rw [List.getElem?_cons_succ, List.getElem?_map] at hx
      by_cases h9 : j < n.toNatClampNeg
      · rw [List.getElem?_range h9] at hx
        cases hx
        exact ⟨by show H.size + 1 + j = H.size + (j + 1); omega, hrow j h9⟩
      · have hn0 : (List.range n.toNatClampNeg)[j]? = none := List.getElem?_eq_none (by rw [List.length_range]; omega)
        rw [hn0] at hx
        cases hx
  have hP2 : va_P D vwCl (ws ++ nw) F.heap := hP0.app (fun k9 x hx => (hnwA k9 x hx).2)
  have hD2 : va_D A (ws ++ nw) := by
    refine ⟨fun i j x y hi hj hxy => ?_, fun k9 x hx => ?_⟩
    · by_cases h1 : i < ws.length <;> by_cases h2 : j < ws.length
      · rw [List.getElem?_append_left h1] at hi
        rw [List.getElem?_append_left h2] at hj
        exact hD.1 i j x y hi hj hxy
      · rw [List.getElem?_append_left h1] at hi
        rw [List.getElem?_append_right (by omega)] at hj
        have := hlt _ _ hi
        have := (hnwA _ _ hj).1
        omega
      · rw [List.getElem?_append_right (by omega)] at hi
        rw [List.getElem?_append_left h2] at hj
        have := hlt _ _ hj
        have := (hnwA _ _ hi).1
        omega
      · rw [List.getElem?_append_right (by omega)] at hi hj
        have := (hnwA _ _ hi).1
        have := (hnwA _ _ hj).1
        omega
    · by_cases h1 : k9 < ws.length
      · rw [List.getElem?_append_left h1] at hx
        exact hD.2 k9 x hx
      · rw [List.getElem?_append_right (by omega)] at hx
        have := (hnwA _ _ hx).1
        exact hA _ (by have := hS.1; omega)
  have hAr : ArrOfT s cA (.array .int) := fun N9 z9 => ⟨(fun q hq => by cases hq), kO, hkO, comp, hkindO⟩
  have hAi : ArrOfT s comp .int := fun N9 z9 => ⟨(fun q hq => by cases hq), kI, hkI, cc9, hkindI⟩
  have hK2 : va_K D vwCl (tys ++ [(cA, .array .int), (comp, .int)]) s := ⟨hK.1, fun k9 x hx => by
    by_cases hl : k9 < tys.length
    · rw [List.getElem?_append_left hl] at hx
      exact hK.2 k9 x hx
    · rw [List.getElem?_append_right (by omega)] at hx
      have h0 : k9 - tys.length < 2 := (List.getElem?_eq_some_iff.mp hx).1
      by_cases h1 : k9 - tys.length = 0
      · rw [h1] at hx
        cases hx
        exact ⟨hAr, fA⟩
      · rw [show k9 - tys.length = 1 by omega] at hx
        cases hx
        exact ⟨hAi, fC⟩⟩
  obtain ⟨t, a1, b1⟩ := kk H.size cA comp F.heap hK2 (by rw [hnw]; exact hP2) (by rw [hnw]; exact hD2) ⟨by rw [f1]; have := hS.1; omega, fun x h1 h2 => (hold x (Nat.lt_of_lt_of_le h1 hS.1)).trans (hS.2.1 x h1 h2), hS.2.2⟩ F rfl X'
  refine ⟨t, step t ?_, b1⟩
  have e : T.heap.size = H.size := by rw [hT]
  rw [e]
  exact a1
