/-! THE LAW'S CALL of HalfDoneLaw.thing -/
set_option maxRecDepth 100000 in
theorem lt_w1 : Cond.methodLink RL 38 yL_thing ∈ aTB := jw 1268 _ (by decide +kernel)
set_option maxRecDepth 100000 in
theorem lt_w2 : Cond.static yL_thing ∈ aTB := jw 1269 _ (by decide +kernel)
set_option maxRecDepth 100000 in
theorem lt_w3 : Cond.codeWith yL_thing cL_thing 5 (some .int) hhT ∈ aTB := jw 1270 _ (by decide +kernel)
set_option maxRecDepth 100000 in
theorem lt_w4 : Cond.initialized RL ∈ aTB := List.mem_filter.mpr ⟨of_decide_eq_true (by decide +kernel), by decide +kernel⟩
theorem lt_good : GoodIn aTB (va_wsS RL 38 yL_thing wsT) := by
  intro w hw
  have hm : w ∈ aTB := by
    simp only [va_wsS, wsT, List.mem_append, List.mem_cons, List.not_mem_nil, or_false] at hw
    rcases hw with (rfl | rfl | rfl) | rfl | hw
    · exact lt_w1
    · exact lt_w2
    · exact lt_w4
    · exact lt_w3
    · exact hw
  exact ⟨hm, good_of_word (List.mem_filter.mp hm).2⟩
section GT
variable {p : Program} {l : Launch} {e : Env} {R : Room} {s : State} {m : MethodId} {args : Array Value} {below : List Frame} {meth : Method} {c : Code} {cells slots : Nat} {Q : State → Prop}
variable {ad : Nat → Nat} {cA : Nat → ClassId} {D : va_G} {tys : List (ClassId × FieldType)} {xs : List Int32}
/-- behind a call that makes something -/
theorem aW_run1 {S : List aSh} {ls : Array Slot} {H : Heap} {locs : List Loc} {pc : Nat} {st0 r : List Value} {v : Option Value} {σ2 : aSt} (hS : va_S (aA ad S s.heap.size) s.heap H locs)
    (hr : va_Run p l e R s m args below meth c H locs cells slots 1 6 (F0 m pc ls st0) r (fun st o t => o = .returned (v.map (aV ad)) ∧ va_P D vwCl (aW ad cA S σ2) t.heap ∧ va_F (aA ad S H.size) st t) (aA ad S H.size))
    (kk : ∀ (H1 : Heap) (locs1 : List Loc), aWo S ad cA D s σ2 H1 locs1 → W p l e R s m args below meth c H1 locs1 (cells + 1) (slots + 6) Q (F0 m (pc + 3) ls ((v.map (aV ad)).toList ++ r))) : W p l e R s m args below meth c H locs cells slots Q (F0 m pc ls st0) := by
  intro T hT X0
  obtain ⟨v', st₀, t, T', L, h0, X', hL, e1, e2, ⟨hv, hP, hz, hk⟩, st⟩ := hr T hT X0
  cases hv
  rw [h0] at hz hk
  have hA : ∀ q, q < H.size → aA ad S H.size q → aA ad S s.heap.size q := fun q hq h => h.elim Or.inl (fun h => absurd h (by omega))
  obtain ⟨t2, a1, b1⟩ := kk T'.heap (locs ++ L) ⟨by rw [e1]; exact hP, ⟨Nat.le_trans hS.1 (by rw [e1]; exact hz), fun q h1 h2 => by rw [e1, hk q (Nat.lt_of_lt_of_le h1 hS.1) (fun z => h2 (hA q (Nat.lt_of_lt_of_le h1 hS.1) z))]; exact hS.2.1 q h1 h2, fun q hq => by
      rcases List.mem_append.mp hq with h | h
      · exact hS.2.2 q h
      · exact (hL q h).elim Or.inl (fun z => Or.inr (Nat.le_trans hS.1 z))⟩⟩ T' rfl X'
  exact ⟨t2, st t2 a1, b1⟩
theorem Gw_thing {d : Nat} {x1 x2 k : Int} {μ μ' : bMm} {lv : List bV} (hF : aFx aM_law p s m c args) (hC : aCx (bX xs) aS ad cA D tys s.heap.size s) (hE : exS (aA ad aS s.heap.size) s) (hrm : d + 8 ≤ R.frames ∧ 41 * (d + 8) ≤ R.locals ∧ cells + 1 ≤ R.cells ∧ slots + 6 ≤ R.slots)
    (hM : ltMet (bX xs) aS l d [.ref 0, .int (Int32.ofInt x1), .int (Int32.ofInt x2), .ref 150] (bσ μ) (some (.int (Int32.ofInt k))) (bσ μ'))
    (kk : Gw p l e R s m args below meth c (cells + 1) (slots + 6) Q ad cA D 377 lv [vi k] μ') : Gw p l e R s m args below meth c cells slots Q ad cA D 374 lv [vr 150, vi x2, vi x1, vr 0] μ := by
  intro H locs ls hW hl
  have hF0 := hF
  obtain ⟨hx, hb, hml, hown, hts⟩ := hF
  obtain ⟨hP, hS⟩ := hW
  have hCm : ∀ U : State, U.heap = H → s.WarmedH U.vm → aCx (bX xs) aS ad cA D tys H.size U := fun U hU hWm => by
    have := hC.moved (U := U) (locs := locs) (by rw [hU]; exact hS) hWm
    rw [hU] at this
    exact this
  have hEm : ∀ U : State, U.heap = H → s.WarmedH U.vm → exS (aA ad aS H.size) U := fun U hU hWm =>
    hE.moved hWm (fun a h1 h2 => by rw [hU]; exact hS.2.1 a h1 h2) (fun q h => h.elim Or.inl (fun h => Or.inr (Nat.le_trans hS.1 h)))
  have hRR : (rm1 d).frames + 1 ≤ R.frames ∧ 8 + (5 + 11) + (rm1 d).locals ≤ R.locals := by
    simp only [rm1]
    omega
  have hd : decode code 374 = .ok (.invokestatic 38, 3) := (aCo_dec (M := aM_law) (pc := 374) (q := (.invokestatic 38, 3)) aOK_law (by rfl)).1
  refine aW_run1 (r := []) hS (vx_runSW (As := [.ref (ad 0), .int (Int32.ofInt x1), .int (Int32.ofInt x2), .ref (ad 150)]) (rest := []) (n := 4) ⟨hx, hb, hml, hown, hts⟩ (hM D ad cA tys H.size) (vx_cwSW 4 hts lt_good rfl rfl rfl ⟨by decide, by decide, by decide +kernel⟩ hRR) ⟨thPre_blind, fun U hU hWm => ⟨rfl, by rw [hU]; exact hP, hCm U hU hWm, hEm U hU hWm⟩⟩ rfl rfl hl.1 rfl (lv_room (by decide)) hd ⟨hrm.2.2.1, hrm.2.2.2⟩) (fun H1 locs1 hW1 => kk H1 locs1 ls hW1 hl)
end GT
