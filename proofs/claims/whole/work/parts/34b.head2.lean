/-! THE LAW'S HEAD, gone through -/
section LH
variable {p : Program} {l : Launch} {e : Env} {R : Room} {s : State} {m : MethodId} {args : Array Value} {below : List Frame} {meth : Method} {c : Code} {Q : State → Prop}
variable {ad : Nat → Nat} {cA : Nat → ClassId} {D : va_G} {tys : List (ClassId × FieldType)} {xs : List Int32}
theorem aWo_congr {S : List aSh} {σ τ : aSt} {H : Heap} {locs : List Loc} (h : aEqS σ τ 0 S = true) (hW : aWo S ad cA D s σ H locs) : aWo S ad cA D s τ H locs := ⟨aP_congr h hW.1, hW.2⟩
theorem law_head {H : Heap} {locs : List Loc} {ls : Array Slot} (hF : aFx aM_law p s m c args) (hNest : ∀ w ∈ aNestM, va_Nw w s) (hAO : aAO s) (hC : aCx (bX xs) [] ad cA D tys s.heap.size s) (hrm : 600 ≤ R.frames ∧ 30000 ≤ R.locals ∧ 151 ≤ R.cells ∧ 14067 ≤ R.slots)
    (hW : aWo [] ad cA D s (fun _ _ => .null) H locs) (hl : aLs ad ls 7 (hlv .null .null .null .null))
    (kk : ∀ (ad' : Nat → Nat) (cA' : Nat → ClassId) (tys' : List (ClassId × FieldType)) (H1 : Heap) (locs1 : List Loc) (ls1 : Array Slot), (∀ a, 1000 ≤ a → ad' a = ad a) → aCx (bX xs) aS ad' cA' D tys' s.heap.size s → (∀ q, aA ad' aS s.heap.size q ↔ aA ad [] s.heap.size q) → aWo aS ad' cA' D s aI0 H1 locs1 → aLs ad' ls1 7 (hlv (.ref 0) (.ref 120) (.ref 150) (.int 0)) → W p l e R s m args below meth c H1 locs1 151 14067 Q (F0 m 23 ls1 [])) :
    W p l e R s m args below meth c H locs 0 0 Q (F0 m 0 ls []) := by
  obtain ⟨⟨z1, z2⟩, z3, z4, z5⟩ := hd_s
  obtain ⟨σ1, x1, y1⟩ := aHok_inv aH1_ok
  obtain ⟨σ2, x2, y2⟩ := aHok_inv aH2_ok
  refine aK_new (M := aK_law) (i := 8) (ci := 11) (w := (140, 141, 115)) (lv := hlv .null .null .null .null) (st := []) hF aLawN (bX_out xs) hC hd_f1 rfl (by omega) (by rw [z4]; omega) (aCo_dec (M := aM_law) (pc := 0) (q := (.new 8, 3)) aOK_law rfl).1 hW hl ?_
  intro ad1 cA1 tys1 H1 locs1 ls1 e1 hC1 hA1 hW1 hl1
  rw [z4]
  refine jN aLaw_ok hF hC1 ⟨by omega, by omega, by omega, by omega⟩ 1 (3, hlv .null .null .null .null, [.ref 0], aNw (fun _ _ => .null) 0 (aDf 11)) (4, hlv .null .null .null .null, [.ref 0, .ref 0], aNw (fun _ _ => .null) 0 (aDf 11)) rfl hW1 hl1 ?_
  intro H2 locs2 ls2 hW2 hl2
  have m1 : aMetM l 3 aK_X11_init [.ref 0] (aNw (fun _ _ => .null) 0 (aDf 11)) [.inl 11] σ1 (aS.take 120) 8511 := aMkMet (aMna_ok l) (List.mem_of_getElem? (i := 11) rfl) (by decide) x1
  refine aK_call (M := aK_law) (i := 15) (kd := 0) (K := 11) (n := 0) (w := (142, 143, 115)) (as := []) (r := [.ref 0]) (a := 0) (d' := 3) (lv := hlv .null .null .null .null) (st := [.ref 0, .ref 0]) hF (List.all_eq_true.mp aLawC (15, 1, 11, 0, 142, 143, 115) (List.mem_of_getElem? (i := 0) rfl)) (M' := aK_X11_init) rfl hNest hAO (bX_out xs) hC1 ⟨by omega, by omega, by rw [z2]; show 0 + 1 + (120 - 1) ≤ _; omega, by omega⟩ (aCo_dec (M := aM_law) (pc := 4) (q := (.invokespecial 15, 3)) aOK_law rfl).1 hW2 hl2 hd_f2 rfl (by decide) m1 (by rw [z2]; decide) ?_
  intro ad3 cA3 tys3 H3 locs3 ls3 e3 hC3 hA3 hW3 hl3
  have hW3 := aWo_congr y1 hW3
  rw [z2]
  refine jN aLaw_ok hF hC3 ⟨by omega, by omega, by show 0 + 1 + (120 - 1) ≤ _; omega, by omega⟩ 1 (7, hlv .null .null .null .null, [.ref 0], aI0) (8, hlv (.ref 0) .null .null .null, [], aI0) rfl hW3 hl3 ?_
  intro H4 locs4 ls4 hW4 hl4
  refine aK_new (M := aK_law) (i := 16) (ci := 12) (w := (1343, 1344, 127)) (lv := hlv (.ref 0) .null .null .null) (st := []) hF aLawN (bX_out xs) hC3 hd_f3 rfl (by show 0 + 1 + (120 - 1) + 1 ≤ _; omega) (by rw [z5]; omega) (aCo_dec (M := aM_law) (pc := 8) (q := (.new 16, 3)) aOK_law rfl).1 hW4 hl4 ?_
  intro ad5 cA5 tys5 H5 locs5 ls5 e5 hC5 hA5 hW5 hl5
  rw [z2] at hW5
  rw [z5, z2]
  refine jN aLaw_ok hF hC5 ⟨by omega, by omega, by show 0 + 1 + (120 - 1) + 1 ≤ _; omega, by omega⟩ 1 (11, hlv (.ref 0) .null .null .null, [.ref 120], aNw aI0 120 (aDf 12)) (12, hlv (.ref 0) .null .null .null, [.ref 120, .ref 120], aNw aI0 120 (aDf 12)) rfl hW5 hl5 ?_
  intro H6 locs6 ls6 hW6 hl6
  have m2 : aMetM l 3 aK_X12_init [.ref 120] (aNw aI0 120 (aDf 12)) (aS.take 120 ++ [.inl 12]) σ2 (aS.take 150) 5482 := aMkMet (aMna_ok l) (List.mem_of_getElem? (i := 12) rfl) (by decide) x2
  have z6 : (aS.take 120 ++ [Sum.inl 12]).length = 121 := by rw [List.length_append, z2]; rfl
  refine aK_call (M := aK_law) (i := 18) (kd := 0) (K := 12) (n := 0) (w := (1345, 1346, 127)) (as := []) (r := [.ref 120]) (a := 120) (d' := 3) (lv := hlv (.ref 0) .null .null .null) (st := [.ref 120, .ref 120]) hF (List.all_eq_true.mp aLawC (18, 1, 12, 0, 1345, 1346, 127) (List.mem_of_getElem? (i := 1) rfl)) (M' := aK_X12_init) rfl hNest hAO (bX_out xs) hC5 ⟨by omega, by omega, by rw [z3, z6]; show 0 + 1 + (120 - 1) + 1 + (150 - 121) ≤ _; omega, by omega⟩ (aCo_dec (M := aM_law) (pc := 12) (q := (.invokespecial 18, 3)) aOK_law rfl).1 hW6 hl6 hd_f4 rfl (by decide) m2 (by rw [z3, z6]; decide) ?_
  intro ad7 cA7 tys7 H7 locs7 ls7 e7 hC7 hA7 hW7 hl7
  have hW7 := aWo_congr y2 hW7
  rw [z3, z6]
  refine jN aLaw_ok hF hC7 ⟨by omega, by omega, by show 0 + 1 + (120 - 1) + 1 + (150 - 121) ≤ _; omega, by omega⟩ 2 (15, hlv (.ref 0) .null .null .null, [.ref 120], aI0) (17, hlv (.ref 0) (.ref 120) .null .null, [.int 1], aI0) rfl hW7 hl7 ?_
  intro H8 locs8 ls8 hW8 hl8
  refine aK_newa (M := aK_law) (t := .long) (tc := 3) (n := 1) (lv := hlv (.ref 0) (.ref 120) .null .null) (st := []) hF (bX_out xs) hC7 hd_f5 rfl (by decide) (by decide) (by show 0 + 1 + (120 - 1) + 1 + (150 - 121) + 1 ≤ _; omega) (by show _ + 1 ≤ _; omega) (aCo_dec (M := aM_law) (pc := 17) (q := (.newarray .long, 2)) aOK_law rfl).1 hW8 hl8 ?_
  intro ad9 cA9 tys9 H9 locs9 ls9 e9 hC9 hA9 hW9 hl9
  have z7 : aS.take 150 ++ [Sum.inr (3, Int32.toNatClampNeg 1)] = aS := z1
  rw [z7] at hC9 hA9 hW9
  rw [z3] at hW9
  have hW9 := aWo_congr hd_e hW9
  rw [z3]
  refine jN aLaw_ok hF hC9 ⟨by omega, by omega, by show 0 + 1 + (120 - 1) + 1 + (150 - 121) + 1 ≤ _; omega, by show _ + 1 ≤ _; omega⟩ 3 (19, hlv (.ref 0) (.ref 120) .null .null, [.ref 150], aI0) (23, hlv (.ref 0) (.ref 120) (.ref 150) (.int 0), [], aI0) rfl hW9 hl9 ?_
  intro H10 locs10 ls10 hW10 hl10
  exact kk ad9 cA9 tys9 H10 locs10 ls10 (fun a ha => by rw [e9 a (Or.inr ha), e7 a (Or.inr ha), e5 a (Or.inr ha), e3 a (Or.inr ha), e1 a (Or.inr ha)]) hC9 (fun q => (hA9 q).trans ((hA7 q).trans ((hA5 q).trans ((hA3 q).trans (hA1 q))))) hW10 hl10
end LH
