/-! THE JDK's TEXTS, 3: walks -/
section JU
variable {p : Program} {l : Launch} {e : Env} {R : Room} {s : State} {m : MethodId} {args : Array Value} {below : List Frame} {meth : Method} {c : Code} {H : Heap} {locs : List Loc} {cells slots : Nat} {Q : State → Prop}
variable {X : aXt} {S : List aSh} {M : aM} {ad : Nat → Nat} {cA : Nat → ClassId} {D : va_G} {tys : List (ClassId × FieldType)} {pc : Nat} {lv st : List Value} {σ : aSt} {ls : Array Slot}
theorem jS1 {ins : Instr} {len : Nat} {z : aC} (hok : aCoC M = true ∧ (aClC aProg (aCs M) = true ∧ aStrOK (aCs M) = true)) (hF : aFx M p s m c args) (hC : aCx X S ad cA D tys s.heap.size s) (hrm : 1 ≤ R.frames ∧ 60 ≤ R.locals ∧ cells ≤ R.cells ∧ slots ≤ R.slots) (hq : aFd (aCo M) pc = some (ins, len)) (h : aIns X S M pc ins lv st σ = some (.inl z)) (hW : aWo S ad cA D s σ H locs) (hl : aLs ad ls (aML M) lv)
    (kk : aKK p l e R s m args below meth c cells slots Q S M ad cA D z) : W p l e R s m args below meth c H locs cells slots Q (F0 m pc ls (st.map (aV ad))) := by
  obtain ⟨hd, hn⟩ := aCo_dec hok.1 hq
  exact aS_go hF hok.2.1 hok.2.2 hC hrm hd hn hW hl h kk
theorem jRet {ins : Instr} {len : Nat} {v : Option Value} (hok : aCoC M = true ∧ (aClC aProg (aCs M) = true ∧ aStrOK (aCs M) = true)) (hF : aFx M p s m c args) (hr : meth.sig.returnType = aRt M) (hlocks : meth.locks = false) (hq : aFd (aCo M) pc = some (ins, len)) (h : aIns X S M pc ins lv st σ = some (.inr (.inl (v, σ)))) (hW : aWo S ad cA D s σ H locs) :
    W p l e R s m args below meth c H locs cells slots (MQ below (aQc S ad cA D v σ (aA ad S s.heap.size)) args s cells slots (aA ad S s.heap.size)) (F0 m pc ls (st.map (aV ad))) := by
  obtain ⟨hd, hn⟩ := aCo_dec hok.1 hq
  refine aS_ret hF hr hlocks hd hn h (fun e t ht hWm => ?_) hW.2.2.2
  exact ⟨rfl, by rw [ht]; exact hW.1, hW.2.F ht⟩
/-- a number that isn't an int's: byte, char -/
theorem jRetN {v : Int32} {ty : FieldType} (hok : aCoC M = true ∧ (aClC aProg (aCs M) = true ∧ aStrOK (aCs M) = true)) (hF : aFx M p s m c args) (hr : meth.sig.returnType = some ty) (hlocks : meth.locks = false) (hq : aFd (aCo M) pc = some (.ireturn, 1)) (hn : narrow ty (.int v) = .int v) (hW : aWo S ad cA D s σ H locs) :
    W p l e R s m args below meth c H locs cells slots (MQ below (aQc S ad cA D (some (.int v)) σ (aA ad S s.heap.size)) args s cells slots (aA ad S s.heap.size)) (F0 m pc ls [.int v]) := by
  obtain ⟨hd, -⟩ := aCo_dec hok.1 hq
  exact W.zret (v := v) (ty := ty) hF.1 hF.2.1 hr hn (fun t ht hWm => ⟨rfl, by rw [ht]; exact hW.1, hW.2.F ht⟩) hW.2.2.2 hd hlocks
end JU
section JW
variable {X : aXt} {S : List aSh} {l : Launch}
theorem jlen {as : List Value} {n : Nat} (h : (aArg as).length = n) : (aArg as).length ≤ n := by omega
theorem cJ3 {d : Nat} {i n : Int32} {x : Value} {σ : aSt} (hx : x = .null ∨ x = .ref 3005) (h0 : ¬ i < 0) (h1 : i < n) : aMet X S l d aM_J3ci [.int i, .int n, x] σ (some (.int i)) σ := by
  have hk := aJ_ok (M := aM_J3ci) (List.mem_of_getElem? (i := 0) rfl)
  refine jMet hk.1 (by rcases hx with rfl | rfl <;> exact Nat.le_refl _) ?_
  intro p e s m args below meth c ad cA D tys ls hF hr hlocks hC hW hl
  have hl : aLs ad ls 3 [.int i, .int n, x] := by rcases hx with rfl | rfl <;> exact hl
  refine jN hk.2 hF hC (jrm d) 1 (0, [.int i, .int n, x], [], σ) (1, [.int i, .int n, x], [.int i], σ) rfl hW hl (fun H1 locs1 ls1 hW hl => ?_)
  refine jS1 hk.2 hF hC (jrm d) (ins := .ifCond .lt 8) (len := 3) (lv := [.int i, .int n, x]) (st := [.int i]) (σ := σ) (z := (4, [.int i, .int n, x], [], σ)) rfl ((aIf_of (P := fun x : Int32 => x < 0) (pc := 1) (off := 8) (t := 9) rfl _ i [] σ).trans (if_neg h0)) hW hl (fun H1 locs1 ls1 hW hl => ?_)
  refine jN hk.2 hF hC (jrm d) 2 (4, [.int i, .int n, x], [], σ) (6, [.int i, .int n, x], [.int n, .int i], σ) rfl hW hl (fun H1 locs1 ls1 hW hl => ?_)
  refine jS1 hk.2 hF hC (jrm d) (ins := .if_icmp .lt 10) (len := 3) (lv := [.int i, .int n, x]) (st := [.int n, .int i]) (σ := σ) (z := (16, [.int i, .int n, x], [], σ)) rfl ((aIc_of (P := fun x y : Int32 => x < y) (pc := 6) (off := 10) (t := 16) rfl _ i n [] σ).trans (if_pos h1)) hW hl (fun H1 locs1 ls1 hW hl => ?_)
  refine jN hk.2 hF hC (jrm d) 1 (16, [.int i, .int n, x], [], σ) (17, [.int i, .int n, x], [.int i], σ) rfl hW hl (fun H1 locs1 ls1 hW hl => ?_)
  exact jRet (X := X) (lv := [.int i, .int n, x]) (st := [.int i]) (σ := σ) hk.2 hF hr hlocks (ins := .ireturn) (len := 1) rfl rfl hW
theorem cJ0ci {d : Nat} {i n : Int32} {σ : aSt} (hd : 1 ≤ d) (h0 : ¬ i < 0) (h1 : i < n) : aMet X S l d aM_J0ci [.int i, .int n] σ none σ := by
  have hk := aJ_ok (M := aM_J0ci) (List.mem_of_getElem? (i := 1) rfl)
  obtain ⟨d', rfl⟩ : ∃ d', d = d' + 1 := ⟨d - 1, by omega⟩
  refine jMet hk.1 (Nat.le_refl _) ?_
  intro p e s m args below meth c ad cA D tys ls hF hr hlocks hC hW hl
  refine jN hk.2 hF hC (jrm _) 2 (0, [.int i, .int n], [], σ) (2, [.int i, .int n], [.int n, .int i], σ) rfl hW hl (fun H1 locs1 ls1 hW hl => ?_)
  have hz := hC.2.2.2.2.2.2.2.2.2.2
  have go : ∀ x : Value, (x = .null ∨ x = .ref 3005) → va_Z "jdk/internal/util/Preconditions" "SIOOBE_FORMATTER" "Ljava/util/function/BiFunction;" (aV ad x) (aA ad S s.heap.size) s s.heap → W p l e (aRm (d' + 1)) s m args below meth c H1 locs1 0 0 (MQ below (aQc S ad cA D none σ (aA ad S s.heap.size)) args s 0 0 (aA ad S s.heap.size)) (F0 m 2 ls1 [.int n, .int i]) := by
    intro x hx hz
    refine va_gets hF.1 hF.2.1 hz hW.2 hF.2.2.2.1 (hF.2.2.2.2 _ jF1) (fun _ h => h) (by decide +kernel) ?_
    refine jCallS (lv := [.int i, .int n]) (σ := σ) (as := [.int i, .int n, x]) (r := []) (n := 3) (d' := d') (aJ_ok (M := aM_J3ci) (List.mem_of_getElem? (i := 0) rfl)).1 hF hC (jrm2 (Nat.le_refl _)) jM1 (jw 131 _ (by decide +kernel)) jM2 (by decide +kernel) (by decide +kernel) rfl (Nat.zero_le _) (cJ3 hx h0 h1) hW hl (fun H1 locs1 ls1 hW hl => ?_)
    refine jN hk.2 hF hC (jrm _) 1 (8, [.int i, .int n], [.int i], σ) (9, [.int i, .int n], [], σ) rfl hW hl (fun H1 locs1 ls1 hW hl => ?_)
    exact jRet (X := X) (lv := [.int i, .int n]) (st := []) (σ := σ) hk.2 hF hr hlocks (ins := .return_) (len := 1) rfl rfl hW
  rcases hz with hz | hz
  · exact go .null (Or.inl rfl) hz
  · exact go (.ref 3005) (Or.inr rfl) hz
def jCh (k j : Nat) : Int32 := (aSB.getD k []).getD j 0
theorem jCh_ok : ∀ k, k < 5 → ∀ j, j < aSL.getD k 0 → (((jCh k j &&& 255).toUInt32 % 65536).toInt32 = jCh k j ∧ narrow .char (.int (jCh k j)) = .int (jCh k j)) := by decide +kernel
theorem jLn_ok : ∀ k, k < 5 → aSL.getD k 0 < 10 := by decide
theorem cJ1ch {d k j : Nat} {σ : aSt} (hd : 2 ≤ d) (hk5 : k < 5) (hj : j < aSL.getD k 0) : aMet X S l d aM_J1ch [.ref (3000 + k), .int (Int32.ofNat j)] σ (some (.int (jCh k j))) σ := by
  have hk := aJ_ok (M := aM_J1ch) (List.mem_of_getElem? (i := 2) rfl)
  obtain ⟨d', rfl⟩ : ∃ d', d = d' + 1 := ⟨d - 1, by omega⟩
  have hL := jLn_ok k hk5
  have hj0 : ¬ Int32.ofNat j < 0 := by
    have := (i32_nat (z := (j : Int)) (n := 10) (by omega) (by omega) (by omega)).2
    rwa [Int32.ofInt_eq_ofNat] at this
  have hj2 : (Int32.ofNat j).toNatClampNeg = j := by
    have := (i32_nat (z := (j : Int)) (n := 10) (by omega) (by omega) (by omega)).1
    rwa [Int32.ofInt_eq_ofNat, Int.toNat_natCast] at this
  have hj1 : Int32.ofNat j < Int32.ofNat (aSL.getD k 0) := by
    have := (i32_lt (x := (j : Int)) (y := ((aSL.getD k 0 : Nat) : Int)) (by omega) (by omega)).mpr (by omega)
    rwa [Int32.ofInt_eq_ofNat, Int32.ofInt_eq_ofNat] at this
  refine jMet hk.1 (Nat.le_refl _) ?_
  intro p e s m args below meth c ad cA D tys ls hF hr hlocks hC hW hl
  have hT := (hC.2.2.2.2.2.2.2.2.1.1 k hk5).2.2.2
  refine jN hk.2 hF hC (jrm _) 2 (0, [.ref (3000 + k), .int (Int32.ofNat j)], [], σ) (2, [.ref (3000 + k), .int (Int32.ofNat j)], [.ref (3000 + k), .int (Int32.ofNat j)], σ) rfl hW hl (fun H1 locs1 ls1 hW hl => ?_)
  refine va_tlen (pc := 2) hF.1 hF.2.1 hT hW.2 rfl (by decide +kernel) ?_
  refine jCallS (pc := 3) (lv := [.ref (3000 + k), .int (Int32.ofNat j)]) (σ := σ) (as := [.int (Int32.ofNat j), .int (Int32.ofNat (aSL.getD k 0))]) (r := []) (n := 2) (d' := d') (aJ_ok (M := aM_J0ci) (List.mem_of_getElem? (i := 1) rfl)).1 hF hC (jrm2 (Nat.le_refl _)) jM5 jI0 jM6 (by decide +kernel) (by decide +kernel) rfl (Nat.zero_le _) (cJ0ci (by omega) hj0 hj1) hW hl (fun H1 locs1 ls1 hW hl => ?_)
  refine jN hk.2 hF hC (jrm _) 2 (6, [.ref (3000 + k), .int (Int32.ofNat j)], [], σ) (8, [.ref (3000 + k), .int (Int32.ofNat j)], [.int (Int32.ofNat j), .ref (3000 + k)], σ) rfl hW hl (fun H1 locs1 ls1 hW hl => ?_)
  refine va_tb (pc := 8) hF.1 hF.2.1 hT hW.2 (i := Int32.ofNat j) (fun h => h.elim hj0 (fun h => by rw [hj2] at h; omega)) (v := .int (jCh k j)) (by rw [hj2]; rfl) (by decide +kernel) ?_
  refine jN hk.2 hF hC (jrm _) 2 (9, [.ref (3000 + k), .int (Int32.ofNat j)], [.int (jCh k j)], σ) (13, [.ref (3000 + k), .int (Int32.ofNat j)], [.int (jCh k j &&& 255)], σ) rfl hW hl (fun H1 locs1 ls1 hW hl => ?_)
  refine lv_i2c (pc := 13) hF.1 hF.2.1 (by decide +kernel) (jCh_ok k hk5 j hj).1 ?_
  exact jRetN hk.2 hF hr hlocks rfl (jCh_ok k hk5 j hj).2 hW
theorem cJ0la {d k : Nat} {σ : aSt} (hk5 : k < 5) : aMet X S l d aM_J0la [.ref (2000 + k)] σ (some (.int 1)) σ := by
  have hk := aJ_ok (M := aM_J0la) (List.mem_of_getElem? (i := 3) rfl)
  refine jMet hk.1 (Nat.le_refl _) ?_
  intro p e s m args below meth c ad cA D tys ls hF hr hlocks hC hW hl
  refine va_gets hF.1 hF.2.1 hC.2.2.2.2.2.2.2.2.2.1 hW.2 hF.2.2.2.1 (hF.2.2.2.2 _ jF2) (fun _ h => h) (by decide +kernel) ?_
  refine jN hk.2 hF hC (jrm d) 2 (3, [.ref (2000 + k)], [.int 1], σ) (7, [.ref (2000 + k)], [.ref (2000 + k)], σ) rfl hW hl (fun H1 locs1 ls1 hW hl => ?_)
  refine vk_getf (pc := 7) hF.1 hF.2.1 (hC.2.2.2.2.2.2.2.2.1.1 k hk5).2.1 hW.2 hF.2.2.2.1 (hF.2.2.2.2 _ jF4) (fun _ h => h) (by decide +kernel) ?_
  refine jN hk.2 hF hC (jrm d) 3 (10, [.ref (2000 + k)], [.int 0], σ) (18, [.ref (2000 + k)], [.int 1], σ) rfl hW hl (fun H1 locs1 ls1 hW hl => ?_)
  exact jRet (X := X) (lv := [.ref (2000 + k)]) (st := [.int 1]) (σ := σ) hk.2 hF hr hlocks (ins := .ireturn) (len := 1) rfl rfl hW
theorem cJ0co {d k : Nat} {σ : aSt} (hk5 : k < 5) : aMet X S l d aM_J0co [.ref (2000 + k)] σ (some (.int 0)) σ := by
  have hk := aJ_ok (M := aM_J0co) (List.mem_of_getElem? (i := 4) rfl)
  refine jMet hk.1 (Nat.le_refl _) ?_
  intro p e s m args below meth c ad cA D tys ls hF hr hlocks hC hW hl
  refine va_gets hF.1 hF.2.1 hC.2.2.2.2.2.2.2.2.2.1 hW.2 hF.2.2.2.1 (hF.2.2.2.2 _ jF2) (fun _ h => h) (by decide +kernel) ?_
  refine jN hk.2 hF hC (jrm d) 2 (3, [.ref (2000 + k)], [.int 1], σ) (7, [.ref (2000 + k)], [.ref (2000 + k)], σ) rfl hW hl (fun H1 locs1 ls1 hW hl => ?_)
  refine vk_getf (pc := 7) hF.1 hF.2.1 (hC.2.2.2.2.2.2.2.2.1.1 k hk5).2.1 hW.2 hF.2.2.2.1 (hF.2.2.2.2 _ jF4) (fun _ h => h) (by decide +kernel) ?_
  refine jN hk.2 hF hC (jrm d) 1 (10, [.ref (2000 + k)], [.int 0], σ) (14, [.ref (2000 + k)], [.int 0], σ) rfl hW hl (fun H1 locs1 ls1 hW hl => ?_)
  exact jRetN hk.2 hF hr hlocks rfl (by decide) hW
theorem cJ0ch {d k j : Nat} {σ : aSt} (hd : 3 ≤ d) (hk5 : k < 5) (hj : j < aSL.getD k 0) : aMet X S l d aM_J0ch [.ref (2000 + k), .int (Int32.ofNat j)] σ (some (.int (jCh k j))) σ := by
  have hk := aJ_ok (M := aM_J0ch) (List.mem_of_getElem? (i := 5) rfl)
  obtain ⟨d', rfl⟩ : ∃ d', d = d' + 1 := ⟨d - 1, by omega⟩
  refine jMet hk.1 (Nat.le_refl _) ?_
  intro p e s m args below meth c ad cA D tys ls hF hr hlocks hC hW hl
  refine jN hk.2 hF hC (jrm _) 1 (0, [.ref (2000 + k), .int (Int32.ofNat j)], [], σ) (1, [.ref (2000 + k), .int (Int32.ofNat j)], [.ref (2000 + k)], σ) rfl hW hl (fun H1 locs1 ls1 hW hl => ?_)
  refine jCallV (pc := 1) (lv := [.ref (2000 + k), .int (Int32.ofNat j)]) (σ := σ) (k := k) (as := []) (r := []) (n := 0) (d' := d') (aJ_ok (M := aM_J0la) (List.mem_of_getElem? (i := 3) rfl)).1 hk5 hF hC (jrm2 (Nat.le_refl _)) jM7 jI0 jM8 jM9 (by decide +kernel) (by decide +kernel) rfl (Nat.zero_le _) (cJ0la hk5) hW hl (fun H1 locs1 ls1 hW hl => ?_)
  refine jN hk.2 hF hC (jrm _) 2 (4, [.ref (2000 + k), .int (Int32.ofNat j)], [.int 1], σ) (8, [.ref (2000 + k), .int (Int32.ofNat j)], [.ref (2000 + k)], σ) rfl hW hl (fun H1 locs1 ls1 hW hl => ?_)
  refine vk_getf (pc := 8) hF.1 hF.2.1 (hC.2.2.2.2.2.2.2.2.1.1 k hk5).2.2.1 hW.2 hF.2.2.2.1 (hF.2.2.2.2 _ jF3) (fun _ h => h) (by decide +kernel) ?_
  refine jN hk.2 hF hC (jrm _) 1 (11, [.ref (2000 + k), .int (Int32.ofNat j)], [.ref (3000 + k)], σ) (12, [.ref (2000 + k), .int (Int32.ofNat j)], [.int (Int32.ofNat j), .ref (3000 + k)], σ) rfl hW hl (fun H1 locs1 ls1 hW hl => ?_)
  refine jCallS (pc := 12) (lv := [.ref (2000 + k), .int (Int32.ofNat j)]) (σ := σ) (as := [.ref (3000 + k), .int (Int32.ofNat j)]) (r := []) (n := 2) (d' := d') (aJ_ok (M := aM_J1ch) (List.mem_of_getElem? (i := 2) rfl)).1 hF hC (jrm2 (Nat.le_refl _)) jM10 (jw 130 _ (by decide +kernel)) jM11 (by decide +kernel) (by decide +kernel) rfl (Nat.zero_le _) (cJ1ch (by omega) hk5 hj) hW hl (fun H1 locs1 ls1 hW hl => ?_)
  exact jRetN hk.2 hF hr hlocks rfl (jCh_ok k hk5 j hj).2 hW
theorem cJ0le {d k : Nat} {σ : aSt} (hd : 1 ≤ d) (hk5 : k < 5) : aMet X S l d aM_J0le [.ref (2000 + k)] σ (some (.int (Int32.ofNat (aSL.getD k 0)))) σ := by
  have hk := aJ_ok (M := aM_J0le) (List.mem_of_getElem? (i := 6) rfl)
  obtain ⟨d', rfl⟩ : ∃ d', d = d' + 1 := ⟨d - 1, by omega⟩
  have hsh : ∀ k, k < 5 → Int32.ofNat (aSL.getD k 0) >>> ((0 : Int32) &&& 31) = Int32.ofNat (aSL.getD k 0) := by decide
  refine jMet hk.1 (Nat.le_refl _) ?_
  intro p e s m args below meth c ad cA D tys ls hF hr hlocks hC hW hl
  have hT := (hC.2.2.2.2.2.2.2.2.1.1 k hk5).2.2.2
  refine jN hk.2 hF hC (jrm _) 1 (0, [.ref (2000 + k)], [], σ) (1, [.ref (2000 + k)], [.ref (2000 + k)], σ) rfl hW hl (fun H1 locs1 ls1 hW hl => ?_)
  refine vk_getf (pc := 1) hF.1 hF.2.1 (hC.2.2.2.2.2.2.2.2.1.1 k hk5).2.2.1 hW.2 hF.2.2.2.1 (hF.2.2.2.2 _ jF3) (fun _ h => h) (by decide +kernel) ?_
  refine va_tlen (pc := 4) hF.1 hF.2.1 hT hW.2 rfl (by decide +kernel) ?_
  refine jN hk.2 hF hC (jrm _) 1 (5, [.ref (2000 + k)], [.int (Int32.ofNat (aSL.getD k 0))], σ) (6, [.ref (2000 + k)], [.ref (2000 + k), .int (Int32.ofNat (aSL.getD k 0))], σ) rfl hW hl (fun H1 locs1 ls1 hW hl => ?_)
  refine jCallV (pc := 6) (lv := [.ref (2000 + k)]) (σ := σ) (k := k) (as := []) (r := [.int (Int32.ofNat (aSL.getD k 0))]) (n := 0) (d' := d') (aJ_ok (M := aM_J0co) (List.mem_of_getElem? (i := 4) rfl)).1 hk5 hF hC (jrm2 (Nat.le_refl _)) jM12 jI0 jM13 jM14 (by decide +kernel) (by decide +kernel) rfl (by show 1 ≤ 8; omega) (cJ0co hk5) hW hl (fun H1 locs1 ls1 hW hl => ?_)
  refine jN hk.2 hF hC (jrm _) 1 (9, [.ref (2000 + k)], [.int 0, .int (Int32.ofNat (aSL.getD k 0))], σ) (10, [.ref (2000 + k)], [.int (Int32.ofNat (aSL.getD k 0) >>> ((0 : Int32) &&& 31))], σ) rfl hW hl (fun H1 locs1 ls1 hW hl => ?_)
  rw [hsh k hk5]
  exact jRet (X := X) (lv := [.ref (2000 + k)]) (st := [.int (Int32.ofNat (aSL.getD k 0))]) (σ := σ) hk.2 hF hr hlocks (ins := .ireturn) (len := 1) rfl rfl hW
end JW
