/-! THE METHODS TOLD AHEAD: isAmong, placeOf, valuesOf -/
section JX
variable {X : aXt} {S : List aSh} {l : Launch}
theorem jok_at (i : Nat) {M : aM} (h : aProg[i]? = some M) : aMD M = true ∧ aCoC M = true ∧ (aClC aProg (aCs M) = true ∧ aStrOK (aCs M) = true) := by
  have := aG2 M (List.mem_of_getElem? h)
  exact ⟨aMD_of this.1, this.2⟩
theorem jok_isAmong : aCoC aM_X12_isAmong = true ∧ (aClC aProg (aCs aM_X12_isAmong) = true ∧ aStrOK (aCs aM_X12_isAmong) = true) := (jok_at 175 rfl).2
theorem jok_placeOf : aCoC aM_X12_placeOf = true ∧ (aClC aProg (aCs aM_X12_placeOf) = true ∧ aStrOK (aCs aM_X12_placeOf) = true) := (jok_at 198 rfl).2
theorem jDr : ∀ t, t < 5 → ∀ k, k < aSL.getD t 0 → (oTx (2000 + t)).drop k = (jCh t k).toInt :: (oTx (2000 + t)).drop (k + 1) := by decide +kernel
theorem jDr0 : ∀ t, t < 5 → (oTx (2000 + t)).drop (aSL.getD t 0) = [] := by decide +kernel
theorem jAm01 : ∀ (l : List Int) (c : Int), Int32.ofInt (bAm l c) = 0 ∨ Int32.ofInt (bAm l c) = 1
  | [], _ => Or.inl rfl
  | b :: l, c => by
    unfold bAm
    split
    · exact Or.inr rfl
    · exact jAm01 l c

theorem c_isAmong_loop {d t : Nat} {c9 : Int32} {σ : aSt} (hd : 4 ≤ d) (ht : t < 5) {p : Program} {e : Env} {s : State} {m : MethodId} {args : Array Value} {below : List Frame} {meth : Method} {c : Code} {ad : Nat → Nat} {cA : Nat → ClassId} {D : va_G} {tys : List (ClassId × FieldType)} (hF : aFx aM_X12_isAmong p s m c args) (hr : meth.sig.returnType = aRt aM_X12_isAmong) (hlocks : meth.locks = false) (hC : aCx X S ad cA D tys s.heap.size s) (v : Int32) : ∀ (n k : Nat) {H : Heap} {locs : List Loc} {ls : Array Slot}, k + n = aSL.getD t 0 → v = Int32.ofInt (bAm ((oTx (2000 + t)).drop k) c9.toInt) → aWo S ad cA D s σ H locs → aLs ad ls 3 [.ref (2000 + t), .int c9, .int (Int32.ofNat k)] →
    W p l e (aRm d) s m args below meth c H locs 0 0 (MQ below (aQc S ad cA D (some (.int v)) σ (aA ad S s.heap.size)) args s 0 0 (aA ad S s.heap.size)) (F0 m 2 ls []) := by
  have hk := jok_isAmong
  obtain ⟨d', rfl⟩ : ∃ d', d = d' + 1 := ⟨d - 1, by omega⟩
  have hL := jLn_ok t ht
  intro n
  induction n with
  | zero =>
    intro k H locs ls hkn hv hW hl
    have hkl : Int32.ofNat (aSL.getD t 0) ≤ Int32.ofNat k := by
      rw [show k = aSL.getD t 0 by omega]
      exact Int32.le_refl _
    refine jN hk hF hC (jrm _) 2 (2, [.ref (2000 + t), .int c9, .int (Int32.ofNat k)], [], σ) (4, [.ref (2000 + t), .int c9, .int (Int32.ofNat k)], [.ref (2000 + t), .int (Int32.ofNat k)], σ) rfl hW hl (fun H1 locs1 ls1 hW hl => ?_)
    refine jCallV (pc := 4) (lv := [.ref (2000 + t), .int c9, .int (Int32.ofNat k)]) (σ := σ) (k := t) (as := []) (r := [.int (Int32.ofNat k)]) (n := 0) (d' := d') (aJ_ok (M := aM_J0le) (List.mem_of_getElem? (i := 6) rfl)).1 ht hF hC (jrm2 (Nat.le_refl _)) jM15 jI0 jM16 jM17 (by decide +kernel) (by decide +kernel) rfl (by show 1 ≤ 8; omega) (cJ0le (by omega) ht) hW hl (fun H1 locs1 ls1 hW hl => ?_)
    refine jS1 (pc := 7) hk hF hC (jrm _) (ins := .if_icmp .ge 20) (len := 3) (lv := [.ref (2000 + t), .int c9, .int (Int32.ofNat k)]) (st := [.int (Int32.ofNat (aSL.getD t 0)), .int (Int32.ofNat k)]) (σ := σ) (z := (27, [.ref (2000 + t), .int c9, .int (Int32.ofNat k)], [], σ)) rfl ((aIc_of (P := fun x y : Int32 => y ≤ x) (pc := 7) (off := 20) (t := 27) rfl _ (Int32.ofNat k) (Int32.ofNat (aSL.getD t 0)) [] σ).trans (if_pos hkl)) hW hl (fun H1 locs1 ls1 hW hl => ?_)
    refine jN hk hF hC (jrm _) 1 (27, [.ref (2000 + t), .int c9, .int (Int32.ofNat k)], [], σ) (28, [.ref (2000 + t), .int c9, .int (Int32.ofNat k)], [.int v], σ) (by rw [hv, show k = aSL.getD t 0 by omega, jDr0 t ht]; rfl) hW hl (fun H1 locs1 ls1 hW hl => ?_)
    exact jRet (X := X) (lv := [.ref (2000 + t), .int c9, .int (Int32.ofNat k)]) (st := [.int v]) (σ := σ) hk hF hr hlocks (ins := .ireturn) (len := 1) rfl (by simp only [aIns]; exact if_pos (by rw [hv]; exact jAm01 _ _)) hW
  | succ n ih =>
    intro k H locs ls hkn hv hW hl
    have hkl : ¬ Int32.ofNat (aSL.getD t 0) ≤ Int32.ofNat k := by
      have := i32_le (x := ((aSL.getD t 0 : Nat) : Int)) (y := (k : Int)) (by omega) (by omega)
      rw [Int32.ofInt_eq_ofNat, Int32.ofInt_eq_ofNat] at this
      rw [this]
      omega
    have hdr := jDr t ht k (by omega)
    rw [hdr] at hv
    refine jN hk hF hC (jrm _) 2 (2, [.ref (2000 + t), .int c9, .int (Int32.ofNat k)], [], σ) (4, [.ref (2000 + t), .int c9, .int (Int32.ofNat k)], [.ref (2000 + t), .int (Int32.ofNat k)], σ) rfl hW hl (fun H1 locs1 ls1 hW hl => ?_)
    refine jCallV (pc := 4) (lv := [.ref (2000 + t), .int c9, .int (Int32.ofNat k)]) (σ := σ) (k := t) (as := []) (r := [.int (Int32.ofNat k)]) (n := 0) (d' := d') (aJ_ok (M := aM_J0le) (List.mem_of_getElem? (i := 6) rfl)).1 ht hF hC (jrm2 (Nat.le_refl _)) jM15 jI0 jM16 jM17 (by decide +kernel) (by decide +kernel) rfl (by show 1 ≤ 8; omega) (cJ0le (by omega) ht) hW hl (fun H1 locs1 ls1 hW hl => ?_)
    refine jS1 (pc := 7) hk hF hC (jrm _) (ins := .if_icmp .ge 20) (len := 3) (lv := [.ref (2000 + t), .int c9, .int (Int32.ofNat k)]) (st := [.int (Int32.ofNat (aSL.getD t 0)), .int (Int32.ofNat k)]) (σ := σ) (z := (10, [.ref (2000 + t), .int c9, .int (Int32.ofNat k)], [], σ)) rfl ((aIc_of (P := fun x y : Int32 => y ≤ x) (pc := 7) (off := 20) (t := 27) rfl _ (Int32.ofNat k) (Int32.ofNat (aSL.getD t 0)) [] σ).trans (if_neg hkl)) hW hl (fun H1 locs1 ls1 hW hl => ?_)
    refine jN hk hF hC (jrm _) 2 (10, [.ref (2000 + t), .int c9, .int (Int32.ofNat k)], [], σ) (12, [.ref (2000 + t), .int c9, .int (Int32.ofNat k)], [.int (Int32.ofNat k), .ref (2000 + t)], σ) rfl hW hl (fun H1 locs1 ls1 hW hl => ?_)
    refine jCallV (pc := 12) (lv := [.ref (2000 + t), .int c9, .int (Int32.ofNat k)]) (σ := σ) (k := t) (as := [.int (Int32.ofNat k)]) (r := []) (n := 1) (d' := d') (aJ_ok (M := aM_J0ch) (List.mem_of_getElem? (i := 5) rfl)).1 ht hF hC (jrm2 (Nat.le_refl _)) jM18 jI0 jM19 jM20 (by decide +kernel) (by decide +kernel) rfl (Nat.zero_le _) (cJ0ch (by omega) ht (by omega)) hW hl (fun H1 locs1 ls1 hW hl => ?_)
    refine jN hk hF hC (jrm _) 1 (15, [.ref (2000 + t), .int c9, .int (Int32.ofNat k)], [.int (jCh t k)], σ) (16, [.ref (2000 + t), .int c9, .int (Int32.ofNat k)], [.int c9, .int (jCh t k)], σ) rfl hW hl (fun H1 locs1 ls1 hW hl => ?_)
    by_cases hc : jCh t k = c9
    · refine jS1 (pc := 16) hk hF hC (jrm _) (ins := .if_icmp .ne 5) (len := 3) (lv := [.ref (2000 + t), .int c9, .int (Int32.ofNat k)]) (st := [.int c9, .int (jCh t k)]) (σ := σ) (z := (19, [.ref (2000 + t), .int c9, .int (Int32.ofNat k)], [], σ)) rfl ((aIc_of (P := fun x y : Int32 => ¬ x = y) (pc := 16) (off := 5) (t := 21) rfl _ (jCh t k) c9 [] σ).trans (if_neg (fun h => h hc))) hW hl (fun H1 locs1 ls1 hW hl => ?_)
      have hv2 : v = 1 := by
        rw [hv]
        show Int32.ofInt (if c9.toInt = (jCh t k).toInt then 1 else bAm ((oTx (2000 + t)).drop (k + 1)) c9.toInt) = _
        rw [if_pos (by rw [hc])]
        rfl
      refine jN hk hF hC (jrm _) 1 (19, [.ref (2000 + t), .int c9, .int (Int32.ofNat k)], [], σ) (20, [.ref (2000 + t), .int c9, .int (Int32.ofNat k)], [.int v], σ) (by rw [hv2]; rfl) hW hl (fun H1 locs1 ls1 hW hl => ?_)
      exact jRet (X := X) (lv := [.ref (2000 + t), .int c9, .int (Int32.ofNat k)]) (st := [.int v]) (σ := σ) hk hF hr hlocks (ins := .ireturn) (len := 1) rfl (by simp only [aIns]; exact if_pos (by rw [hv]; exact jAm01 _ _)) hW
    · refine jS1 (pc := 16) hk hF hC (jrm _) (ins := .if_icmp .ne 5) (len := 3) (lv := [.ref (2000 + t), .int c9, .int (Int32.ofNat k)]) (st := [.int c9, .int (jCh t k)]) (σ := σ) (z := (21, [.ref (2000 + t), .int c9, .int (Int32.ofNat k)], [], σ)) rfl ((aIc_of (P := fun x y : Int32 => ¬ x = y) (pc := 16) (off := 5) (t := 21) rfl _ (jCh t k) c9 [] σ).trans (if_pos hc)) hW hl (fun H1 locs1 ls1 hW hl => ?_)
      have e1 : Int32.ofNat k + Int32.ofInt 1 = Int32.ofNat (k + 1) := by
        rw [← Int32.ofInt_eq_ofNat, ← Int32.ofInt_eq_ofNat, ← Int32.ofInt_add]
        rfl
      refine jN hk hF hC (jrm _) 2 (21, [.ref (2000 + t), .int c9, .int (Int32.ofNat k)], [], σ) (2, [.ref (2000 + t), .int c9, .int (Int32.ofNat k + Int32.ofInt 1)], [], σ) rfl hW hl (fun H1 locs1 ls1 hW hl => ?_)
      rw [e1] at hl
      refine ih (k + 1) (by omega) ?_ hW hl
      rw [hv]
      show Int32.ofInt (if c9.toInt = (jCh t k).toInt then 1 else bAm ((oTx (2000 + t)).drop (k + 1)) c9.toInt) = _
      rw [if_neg (fun h => hc (Int32.toInt_inj.mp h.symm))]

theorem c_placeOf_loop {d t : Nat} {c9 : Int32} {σ : aSt} (hd : 4 ≤ d) (ht : t < 5) {p : Program} {e : Env} {s : State} {m : MethodId} {args : Array Value} {below : List Frame} {meth : Method} {c : Code} {ad : Nat → Nat} {cA : Nat → ClassId} {D : va_G} {tys : List (ClassId × FieldType)} (hF : aFx aM_X12_placeOf p s m c args) (hr : meth.sig.returnType = aRt aM_X12_placeOf) (hlocks : meth.locks = false) (hC : aCx X S ad cA D tys s.heap.size s) (v : Int32) : ∀ (n k : Nat) {H : Heap} {locs : List Loc} {ls : Array Slot}, k + n = aSL.getD t 0 → v = Int32.ofInt (bPl ((oTx (2000 + t)).drop k) c9.toInt (k : Int)) → aWo S ad cA D s σ H locs → aLs ad ls 3 [.ref (2000 + t), .int c9, .int (Int32.ofNat k)] →
    W p l e (aRm d) s m args below meth c H locs 0 0 (MQ below (aQc S ad cA D (some (.int v)) σ (aA ad S s.heap.size)) args s 0 0 (aA ad S s.heap.size)) (F0 m 2 ls []) := by
  have hk := jok_placeOf
  obtain ⟨d', rfl⟩ : ∃ d', d = d' + 1 := ⟨d - 1, by omega⟩
  have hL := jLn_ok t ht
  intro n
  induction n with
  | zero =>
    intro k H locs ls hkn hv hW hl
    have hkl : Int32.ofNat (aSL.getD t 0) ≤ Int32.ofNat k := by
      rw [show k = aSL.getD t 0 by omega]
      exact Int32.le_refl _
    refine jN hk hF hC (jrm _) 2 (2, [.ref (2000 + t), .int c9, .int (Int32.ofNat k)], [], σ) (4, [.ref (2000 + t), .int c9, .int (Int32.ofNat k)], [.ref (2000 + t), .int (Int32.ofNat k)], σ) rfl hW hl (fun H1 locs1 ls1 hW hl => ?_)
    refine jCallV (pc := 4) (lv := [.ref (2000 + t), .int c9, .int (Int32.ofNat k)]) (σ := σ) (k := t) (as := []) (r := [.int (Int32.ofNat k)]) (n := 0) (d' := d') (aJ_ok (M := aM_J0le) (List.mem_of_getElem? (i := 6) rfl)).1 ht hF hC (jrm2 (Nat.le_refl _)) jM15 jI0 jM16 jM17 (by decide +kernel) (by decide +kernel) rfl (by show 1 ≤ 8; omega) (cJ0le (by omega) ht) hW hl (fun H1 locs1 ls1 hW hl => ?_)
    refine jS1 (pc := 7) hk hF hC (jrm _) (ins := .if_icmp .ge 20) (len := 3) (lv := [.ref (2000 + t), .int c9, .int (Int32.ofNat k)]) (st := [.int (Int32.ofNat (aSL.getD t 0)), .int (Int32.ofNat k)]) (σ := σ) (z := (27, [.ref (2000 + t), .int c9, .int (Int32.ofNat k)], [], σ)) rfl ((aIc_of (P := fun x y : Int32 => y ≤ x) (pc := 7) (off := 20) (t := 27) rfl _ (Int32.ofNat k) (Int32.ofNat (aSL.getD t 0)) [] σ).trans (if_pos hkl)) hW hl (fun H1 locs1 ls1 hW hl => ?_)
    refine jN hk hF hC (jrm _) 1 (27, [.ref (2000 + t), .int c9, .int (Int32.ofNat k)], [], σ) (28, [.ref (2000 + t), .int c9, .int (Int32.ofNat k)], [.int v], σ) (by rw [hv, show k = aSL.getD t 0 by omega, jDr0 t ht]; rfl) hW hl (fun H1 locs1 ls1 hW hl => ?_)
    exact jRet (X := X) (lv := [.ref (2000 + t), .int c9, .int (Int32.ofNat k)]) (st := [.int v]) (σ := σ) hk hF hr hlocks (ins := .ireturn) (len := 1) rfl rfl hW
  | succ n ih =>
    intro k H locs ls hkn hv hW hl
    have hkl : ¬ Int32.ofNat (aSL.getD t 0) ≤ Int32.ofNat k := by
      have := i32_le (x := ((aSL.getD t 0 : Nat) : Int)) (y := (k : Int)) (by omega) (by omega)
      rw [Int32.ofInt_eq_ofNat, Int32.ofInt_eq_ofNat] at this
      rw [this]
      omega
    have hdr := jDr t ht k (by omega)
    rw [hdr] at hv
    refine jN hk hF hC (jrm _) 2 (2, [.ref (2000 + t), .int c9, .int (Int32.ofNat k)], [], σ) (4, [.ref (2000 + t), .int c9, .int (Int32.ofNat k)], [.ref (2000 + t), .int (Int32.ofNat k)], σ) rfl hW hl (fun H1 locs1 ls1 hW hl => ?_)
    refine jCallV (pc := 4) (lv := [.ref (2000 + t), .int c9, .int (Int32.ofNat k)]) (σ := σ) (k := t) (as := []) (r := [.int (Int32.ofNat k)]) (n := 0) (d' := d') (aJ_ok (M := aM_J0le) (List.mem_of_getElem? (i := 6) rfl)).1 ht hF hC (jrm2 (Nat.le_refl _)) jM15 jI0 jM16 jM17 (by decide +kernel) (by decide +kernel) rfl (by show 1 ≤ 8; omega) (cJ0le (by omega) ht) hW hl (fun H1 locs1 ls1 hW hl => ?_)
    refine jS1 (pc := 7) hk hF hC (jrm _) (ins := .if_icmp .ge 20) (len := 3) (lv := [.ref (2000 + t), .int c9, .int (Int32.ofNat k)]) (st := [.int (Int32.ofNat (aSL.getD t 0)), .int (Int32.ofNat k)]) (σ := σ) (z := (10, [.ref (2000 + t), .int c9, .int (Int32.ofNat k)], [], σ)) rfl ((aIc_of (P := fun x y : Int32 => y ≤ x) (pc := 7) (off := 20) (t := 27) rfl _ (Int32.ofNat k) (Int32.ofNat (aSL.getD t 0)) [] σ).trans (if_neg hkl)) hW hl (fun H1 locs1 ls1 hW hl => ?_)
    refine jN hk hF hC (jrm _) 2 (10, [.ref (2000 + t), .int c9, .int (Int32.ofNat k)], [], σ) (12, [.ref (2000 + t), .int c9, .int (Int32.ofNat k)], [.int (Int32.ofNat k), .ref (2000 + t)], σ) rfl hW hl (fun H1 locs1 ls1 hW hl => ?_)
    refine jCallV (pc := 12) (lv := [.ref (2000 + t), .int c9, .int (Int32.ofNat k)]) (σ := σ) (k := t) (as := [.int (Int32.ofNat k)]) (r := []) (n := 1) (d' := d') (aJ_ok (M := aM_J0ch) (List.mem_of_getElem? (i := 5) rfl)).1 ht hF hC (jrm2 (Nat.le_refl _)) jM18 jI0 jM19 jM20 (by decide +kernel) (by decide +kernel) rfl (Nat.zero_le _) (cJ0ch (by omega) ht (by omega)) hW hl (fun H1 locs1 ls1 hW hl => ?_)
    refine jN hk hF hC (jrm _) 1 (15, [.ref (2000 + t), .int c9, .int (Int32.ofNat k)], [.int (jCh t k)], σ) (16, [.ref (2000 + t), .int c9, .int (Int32.ofNat k)], [.int c9, .int (jCh t k)], σ) rfl hW hl (fun H1 locs1 ls1 hW hl => ?_)
    by_cases hc : jCh t k = c9
    · refine jS1 (pc := 16) hk hF hC (jrm _) (ins := .if_icmp .ne 5) (len := 3) (lv := [.ref (2000 + t), .int c9, .int (Int32.ofNat k)]) (st := [.int c9, .int (jCh t k)]) (σ := σ) (z := (19, [.ref (2000 + t), .int c9, .int (Int32.ofNat k)], [], σ)) rfl ((aIc_of (P := fun x y : Int32 => ¬ x = y) (pc := 16) (off := 5) (t := 21) rfl _ (jCh t k) c9 [] σ).trans (if_neg (fun h => h hc))) hW hl (fun H1 locs1 ls1 hW hl => ?_)
      have hv2 : v = Int32.ofNat k := by
        rw [hv]
        show Int32.ofInt (if c9.toInt = (jCh t k).toInt then (k : Int) else bPl ((oTx (2000 + t)).drop (k + 1)) c9.toInt ((k : Int) + 1)) = _
        rw [if_pos (by rw [hc])]
        exact Int32.ofInt_eq_ofNat
      refine jN hk hF hC (jrm _) 1 (19, [.ref (2000 + t), .int c9, .int (Int32.ofNat k)], [], σ) (20, [.ref (2000 + t), .int c9, .int (Int32.ofNat k)], [.int v], σ) (by rw [hv2]; rfl) hW hl (fun H1 locs1 ls1 hW hl => ?_)
      exact jRet (X := X) (lv := [.ref (2000 + t), .int c9, .int (Int32.ofNat k)]) (st := [.int v]) (σ := σ) hk hF hr hlocks (ins := .ireturn) (len := 1) rfl rfl hW
    · refine jS1 (pc := 16) hk hF hC (jrm _) (ins := .if_icmp .ne 5) (len := 3) (lv := [.ref (2000 + t), .int c9, .int (Int32.ofNat k)]) (st := [.int c9, .int (jCh t k)]) (σ := σ) (z := (21, [.ref (2000 + t), .int c9, .int (Int32.ofNat k)], [], σ)) rfl ((aIc_of (P := fun x y : Int32 => ¬ x = y) (pc := 16) (off := 5) (t := 21) rfl _ (jCh t k) c9 [] σ).trans (if_pos hc)) hW hl (fun H1 locs1 ls1 hW hl => ?_)
      have e1 : Int32.ofNat k + Int32.ofInt 1 = Int32.ofNat (k + 1) := by
        rw [← Int32.ofInt_eq_ofNat, ← Int32.ofInt_eq_ofNat, ← Int32.ofInt_add]
        rfl
      refine jN hk hF hC (jrm _) 2 (21, [.ref (2000 + t), .int c9, .int (Int32.ofNat k)], [], σ) (2, [.ref (2000 + t), .int c9, .int (Int32.ofNat k + Int32.ofInt 1)], [], σ) rfl hW hl (fun H1 locs1 ls1 hW hl => ?_)
      rw [e1] at hl
      refine ih (k + 1) (by omega) ?_ hW hl
      rw [hv]
      show Int32.ofInt (if c9.toInt = (jCh t k).toInt then (k : Int) else bPl ((oTx (2000 + t)).drop (k + 1)) c9.toInt ((k : Int) + 1)) = _
      rw [if_neg (fun h => hc (Int32.toInt_inj.mp h.symm))]
      rfl

theorem c_isAmong {d t : Nat} {c9 : Int32} {σ : aSt} (hd : 4 ≤ d) (ht : t < 5) : aMet X S l d aM_X12_isAmong [.ref (2000 + t), .int c9] σ (some (.int (Int32.ofInt (bAm (oTx (2000 + t)) c9.toInt)))) σ := by
  refine jMet (jok_at 175 rfl).1 (by show 2 ≤ 3; omega) ?_
  intro p e s m args below meth c ad cA D tys ls hF hr hlocks hC hW hl
  refine jN jok_isAmong hF hC (jrm _) 2 (0, [.ref (2000 + t), .int c9, .null], [], σ) (2, [.ref (2000 + t), .int c9, .int (Int32.ofNat 0)], [], σ) rfl hW hl (fun H1 locs1 ls1 hW hl => ?_)
  exact c_isAmong_loop hd ht hF hr hlocks hC _ (aSL.getD t 0) 0 (by omega) (by rw [List.drop_zero]) hW hl
theorem c_placeOf {d t : Nat} {c9 : Int32} {σ : aSt} (hd : 4 ≤ d) (ht : t < 5) : aMet X S l d aM_X12_placeOf [.ref (2000 + t), .int c9] σ (some (.int (Int32.ofInt (bPl (oTx (2000 + t)) c9.toInt 0)))) σ := by
  refine jMet (jok_at 198 rfl).1 (by show 2 ≤ 3; omega) ?_
  intro p e s m args below meth c ad cA D tys ls hF hr hlocks hC hW hl
  refine jN jok_placeOf hF hC (jrm _) 2 (0, [.ref (2000 + t), .int c9, .null], [], σ) (2, [.ref (2000 + t), .int c9, .int (Int32.ofNat 0)], [], σ) rfl hW hl (fun H1 locs1 ls1 hW hl => ?_)
  exact c_placeOf_loop hd ht hF hr hlocks hC _ (aSL.getD t 0) 0 (by omega) (by rw [List.drop_zero]; rfl) hW hl
theorem i32_xor_neg (x y : Int32) (hy : 0 ≤ y.toInt) : 0 ≤ x ^^^ y ↔ 0 ≤ x := by
  have e : ∀ z : Int32, 0 ≤ z ↔ z.toBitVec.msb = false := fun z => by
    rw [Int32.le_iff_toInt_le, show (0 : Int32).toInt = 0 from rfl, BitVec.msb_eq_toInt]
    show 0 ≤ z.toBitVec.toInt ↔ _
    simp
  have hm : y.toBitVec.msb = false := by
    rw [BitVec.msb_eq_toInt]
    show decide (y.toInt < 0) = false
    simp
    omega
  rw [e, e, Int32.toBitVec_xor, BitVec.msb_xor, hm]
  simp
theorem i32_mul6 (x : Int) : Int32.ofInt 1000000 = 1000000 := rfl
theorem fd_int (x : Int) : x / 1000000 = if 0 ≤ x then x.tdiv 1000000 else if x.tdiv 1000000 * 1000000 = x then x.tdiv 1000000 else x.tdiv 1000000 - 1 := by
  by_cases h : 0 ≤ x
  · rw [if_pos h, Int.tdiv_eq_ediv_of_nonneg h]
  · rw [if_neg h]
    have e : x.tdiv 1000000 = -((-x) / 1000000) := by
      rw [← Int.tdiv_eq_ediv_of_nonneg (by omega), Int.neg_tdiv, Int.neg_neg]
    rw [e]
    split <;> omega
set_option maxHeartbeats 4000000 in
theorem cJ9 {d : Nat} {x : Int32} {σ : aSt} : aMet X S l d aM_J9fd [.int x, .int 1000000] σ (some (.int (Int32.ofInt (x.toInt / 1000000)))) σ := by
  have hk := aJ_ok (M := aM_J9fd) (List.mem_of_getElem? (i := 7) rfl)
  have hxr : inR x.toInt := ⟨Int32.le_toInt x, by have := Int32.toInt_lt x; omega⟩
  have hq : x / 1000000 = Int32.ofInt (x.toInt.tdiv 1000000) := by
    rw [Int32.ofInt_tdiv hxr.1 hxr.2 (by decide) (by decide), Int32.ofInt_toInt]
    rfl
  have hqr : inR (x.toInt.tdiv 1000000) := by
    by_cases h : 0 ≤ x.toInt
    · rw [Int.tdiv_eq_ediv_of_nonneg h]
      omega
    · have e : x.toInt.tdiv 1000000 = -((-x.toInt) / 1000000) := by
        rw [← Int.tdiv_eq_ediv_of_nonneg (by omega), Int.neg_tdiv, Int.neg_neg]
      rw [e]
      omega
  have hpr : inR (x.toInt.tdiv 1000000 * 1000000) := by
    by_cases h : 0 ≤ x.toInt
    · rw [Int.tdiv_eq_ediv_of_nonneg h]
      omega
    · have e : x.toInt.tdiv 1000000 = -((-x.toInt) / 1000000) := by
        rw [← Int.tdiv_eq_ediv_of_nonneg (by omega), Int.neg_tdiv, Int.neg_neg]
      rw [e]
      omega
  have h0 : 0 ≤ x ↔ 0 ≤ x.toInt := by rw [Int32.le_iff_toInt_le]; rfl
  have hpe : x / 1000000 * 1000000 = x ↔ x.toInt.tdiv 1000000 * 1000000 = x.toInt := by
    have e : x / 1000000 * 1000000 = Int32.ofInt (x.toInt.tdiv 1000000 * 1000000) := by
      rw [Int32.ofInt_mul, hq]
      rfl
    rw [e]
    constructor
    · intro h
      rw [← i32_of hpr, h]
    · intro h
      rw [h, Int32.ofInt_toInt]
  refine jMet hk.1 (by show 2 ≤ 3; omega) ?_
  intro p e s m args below meth c ad cA D tys ls hF hr hlocks hC hW hl
  refine jN hk.2 hF hC (jrm d) 7 (0, [.int x, .int 1000000, .null], [], σ) (7, [.int x, .int 1000000, .int (x / 1000000)], [.int (x ^^^ 1000000)], σ) rfl hW hl (fun H1 locs1 ls1 hW hl => ?_)
  have hxor := i32_xor_neg x 1000000 (by decide)
  rw [fd_int]
  by_cases h : 0 ≤ x.toInt
  · rw [if_pos h, ← hq]
    refine jS1 (pc := 7) hk.2 hF hC (jrm d) (ins := .ifCond .ge 14) (len := 3) (lv := [.int x, .int 1000000, .int (x / 1000000)]) (st := [.int (x ^^^ 1000000)]) (σ := σ) (z := (21, [.int x, .int 1000000, .int (x / 1000000)], [], σ)) rfl ((aIf_of (P := fun x : Int32 => 0 ≤ x) (pc := 7) (off := 14) (t := 21) rfl _ (x ^^^ 1000000) [] σ).trans (if_pos (hxor.mpr (h0.mpr h)))) hW hl (fun H1 locs1 ls1 hW hl => ?_)
    refine jN hk.2 hF hC (jrm d) 1 (21, [.int x, .int 1000000, .int (x / 1000000)], [], σ) (22, [.int x, .int 1000000, .int (x / 1000000)], [.int (x / 1000000)], σ) rfl hW hl (fun H1 locs1 ls1 hW hl => ?_)
    exact jRet (X := X) (lv := [.int x, .int 1000000, .int (x / 1000000)]) (st := [.int (x / 1000000)]) (σ := σ) hk.2 hF hr hlocks (ins := .ireturn) (len := 1) rfl rfl hW
  · rw [if_neg h]
    refine jS1 (pc := 7) hk.2 hF hC (jrm d) (ins := .ifCond .ge 14) (len := 3) (lv := [.int x, .int 1000000, .int (x / 1000000)]) (st := [.int (x ^^^ 1000000)]) (σ := σ) (z := (10, [.int x, .int 1000000, .int (x / 1000000)], [], σ)) rfl ((aIf_of (P := fun x : Int32 => 0 ≤ x) (pc := 7) (off := 14) (t := 21) rfl _ (x ^^^ 1000000) [] σ).trans (if_neg (fun n => h (h0.mp (hxor.mp n))))) hW hl (fun H1 locs1 ls1 hW hl => ?_)
    refine jN hk.2 hF hC (jrm d) 4 (10, [.int x, .int 1000000, .int (x / 1000000)], [], σ) (14, [.int x, .int 1000000, .int (x / 1000000)], [.int x, .int (x / 1000000 * 1000000)], σ) rfl hW hl (fun H1 locs1 ls1 hW hl => ?_)
    by_cases h2 : x.toInt.tdiv 1000000 * 1000000 = x.toInt
    · rw [if_pos h2, ← hq]
      refine jS1 (pc := 14) hk.2 hF hC (jrm d) (ins := .if_icmp .eq 7) (len := 3) (lv := [.int x, .int 1000000, .int (x / 1000000)]) (st := [.int x, .int (x / 1000000 * 1000000)]) (σ := σ) (z := (21, [.int x, .int 1000000, .int (x / 1000000)], [], σ)) rfl ((aIc_of (P := fun x y : Int32 => x = y) (pc := 14) (off := 7) (t := 21) rfl _ (x / 1000000 * 1000000) x [] σ).trans (if_pos (hpe.mpr h2))) hW hl (fun H1 locs1 ls1 hW hl => ?_)
      refine jN hk.2 hF hC (jrm d) 1 (21, [.int x, .int 1000000, .int (x / 1000000)], [], σ) (22, [.int x, .int 1000000, .int (x / 1000000)], [.int (x / 1000000)], σ) rfl hW hl (fun H1 locs1 ls1 hW hl => ?_)
      exact jRet (X := X) (lv := [.int x, .int 1000000, .int (x / 1000000)]) (st := [.int (x / 1000000)]) (σ := σ) hk.2 hF hr hlocks (ins := .ireturn) (len := 1) rfl rfl hW
    · have e1 : Int32.ofInt (x.toInt.tdiv 1000000 - 1) = x / 1000000 - 1 := by rw [Int32.ofInt_sub, hq]; rfl
      rw [if_neg h2, e1]
      refine jS1 (pc := 14) hk.2 hF hC (jrm d) (ins := .if_icmp .eq 7) (len := 3) (lv := [.int x, .int 1000000, .int (x / 1000000)]) (st := [.int x, .int (x / 1000000 * 1000000)]) (σ := σ) (z := (17, [.int x, .int 1000000, .int (x / 1000000)], [], σ)) rfl ((aIc_of (P := fun x y : Int32 => x = y) (pc := 14) (off := 7) (t := 21) rfl _ (x / 1000000 * 1000000) x [] σ).trans (if_neg (fun n => h2 (hpe.mp n)))) hW hl (fun H1 locs1 ls1 hW hl => ?_)
      refine jN hk.2 hF hC (jrm d) 3 (17, [.int x, .int 1000000, .int (x / 1000000)], [], σ) (20, [.int x, .int 1000000, .int (x / 1000000)], [.int (x / 1000000 - 1)], σ) rfl hW hl (fun H1 locs1 ls1 hW hl => ?_)
      exact jRet (X := X) (lv := [.int x, .int 1000000, .int (x / 1000000)]) (st := [.int (x / 1000000 - 1)]) (σ := σ) hk.2 hF hr hlocks (ins := .ireturn) (len := 1) rfl rfl hW
theorem c_valuesOf {d : Nat} {x : Int32} {σ : aSt} (hd : 1 ≤ d) : aMet X S l d aM_X1_valuesOf [.int x] σ (some (.int (Int32.ofInt ((x + 999999).toInt / 1000000)))) σ := by
  have hk := (jok_at 13 (M := aM_X1_valuesOf) rfl)
  obtain ⟨d', rfl⟩ : ∃ d', d = d' + 1 := ⟨d - 1, by omega⟩
  have e1 : x + 1000000 - 1 = x + 999999 := by
    rw [Int32.sub_eq_add_neg, Int32.add_assoc]
    rfl
  refine jMet hk.1 (Nat.le_refl _) ?_
  intro p e s m args below meth c ad cA D tys ls hF hr hlocks hC hW hl
  refine jN hk.2 hF hC (jrm _) 6 (0, [.int x], [], σ) (8, [.int x], [.int 1000000, .int (x + 1000000 - 1)], σ) rfl hW hl (fun H1 locs1 ls1 hW hl => ?_)
  rw [e1]
  refine jCallS (pc := 8) (lv := [.int x]) (σ := σ) (as := [.int (x + 999999), .int 1000000]) (r := []) (n := 2) (d' := d') (aJ_ok (M := aM_J9fd) (List.mem_of_getElem? (i := 7) rfl)).1 hF hC (jrm2 (Nat.le_refl _)) jM21 (jw 133 _ (by decide +kernel)) jM22 (by decide +kernel) (by decide +kernel) rfl (Nat.zero_le _) cJ9 hW hl (fun H1 locs1 ls1 hW hl => ?_)
  exact jRet (X := X) (lv := [.int x]) (st := [.int (Int32.ofInt ((x + 999999).toInt / 1000000))]) (σ := σ) hk.2 hF hr hlocks (ins := .ireturn) (len := 1) rfl rfl hW
/-- the methods told ahead keep what is told -/
theorem oOk_all : oOk X S aProg l := by
  intro K as v h
  unfold oOr at h
  split at h
  · split at h
    · cases h
      exact ⟨aM_X1_valuesOf, rfl, fun d hd σ => c_valuesOf (by omega)⟩
    · cases h
  · split at h
    · rename_i r c
      split at h
      · rename_i hb
        rw [Bool.and_eq_true] at hb
        have h1 := Nat.le_of_ble_eq_true hb.1
        have h2 := Nat.le_of_ble_eq_true hb.2
        obtain ⟨t, rfl⟩ : ∃ t : Nat, r = 2000 + t := ⟨r - 2000, (Nat.add_sub_of_le h1).symm⟩
        cases h
        exact ⟨aM_X12_isAmong, rfl, fun d hd σ => c_isAmong (by omega) (by omega)⟩
      · cases h
    · cases h
  · split at h
    · rename_i r c
      split at h
      · rename_i hb
        rw [Bool.and_eq_true] at hb
        have h1 := Nat.le_of_ble_eq_true hb.1
        have h2 := Nat.le_of_ble_eq_true hb.2
        obtain ⟨t, rfl⟩ : ∃ t : Nat, r = 2000 + t := ⟨r - 2000, (Nat.add_sub_of_le h1).symm⟩
        cases h
        exact ⟨aM_X12_placeOf, rfl, fun d hd σ => c_placeOf (by omega) (by omega)⟩
      · cases h
    · cases h
  · cases h
end JX
