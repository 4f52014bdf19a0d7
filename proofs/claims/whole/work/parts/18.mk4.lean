/-! SOUNDNESS of the making machine: calls of constructors, whole runs -/
section AS
variable {p : Program} {l : Launch} {e : Env} {R : Room} {s : State} {m : MethodId} {args : Array Value} {below : List Frame} {meth : Method} {c : Code} {H : Heap} {locs : List Loc} {cells slots : Nat} {Q : State → Prop}
variable {X : aXt} {S : List aSh} {ad : Nat → Nat} {cA : Nat → ClassId} {D : va_G} {tys : List (ClassId × FieldType)} {pc : Nat} {lv st : List Value} {σ : aSt} {ls : Array Slot} {M : aMk}
theorem aK_run {mc ms : Nat} {st0 r : List Value} {S2 : List aSh} {σ2 : aSt} {a0 : Array Value} (hX : ∀ a q, X a = some q → 1000 ≤ a) (hle : S.length ≤ S2.length) (hC : aCx X S ad cA D tys s.heap.size s) (hlv : lv.all (aFr S.length) = true) (hrv : r.all (aFr S.length) = true) (hS : va_S (aA ad S s.heap.size) s.heap H locs) (hl : aLs ad ls (aML M.1) lv)
    (hr : va_Run p l e R s m args below meth c H locs cells slots mc ms (F0 m pc ls st0) (r.map (aV ad)) (aQm S ad D S2 σ2 (aA ad S H.size) a0) (aA ad S H.size))
    (kk : aKM p l e R s m args below meth c (cells + mc) (slots + ms) Q X S ad D M.1 S2 (pc + 3) lv r σ2) : W p l e R s m args below meth c H locs cells slots Q (F0 m pc ls st0) := by
  intro T hT X0
  obtain ⟨v', st₀, t, T', L, h0, X', hL, e1, e2, ⟨hv, ad', cA', tys', ha, hP, hK, hT', hI, hge, hz, hk⟩, stp⟩ := hr T hT X0
  cases hv
  rw [h0] at hge hz hk
  have hA := aA_grow (sz := s.heap.size) hle (fun i hi => ha i (Or.inl hi)) (fun i h1 h2 => Nat.le_trans hS.1 (hge i h1 h2))
  have hal : t.vm.Alike s.vm := by
    rw [← e2]
    exact (X'.warmed.alike).symm
  have hC' := aCx_grow hX hle hC ha hA (va_K.moved hal hK) hT' hI
  have hAA : ∀ q, q < H.size → aA ad S H.size q → aA ad S s.heap.size q := fun q hq h => h.elim Or.inl (fun h => absurd h (by omega))
  have hS' : va_S (aA ad S s.heap.size) s.heap T'.heap (locs ++ L) := ⟨Nat.le_trans hS.1 (by rw [e1]; exact hz), fun q h1 h2 => by rw [e1, hk q (Nat.lt_of_lt_of_le h1 hS.1) (fun z => h2 (hAA q (Nat.lt_of_lt_of_le h1 hS.1) z))]; exact hS.2.1 q h1 h2, fun q hq => by
      rcases List.mem_append.mp hq with h | h
      · exact hS.2.2 q h
      · exact (hL q h).elim Or.inl (fun z => Or.inr (Nat.le_trans hS.1 z))⟩
  obtain ⟨t2, a1, b1⟩ := kk ad' cA' tys' T'.heap (locs ++ L) ls ha hC' hA ⟨by rw [e1]; exact hP, va_S_iff (fun q => (hA q).symm) hS'⟩ (aLs_move ha hlv hl) T' rfl X'
  refine ⟨t2, stp t2 ?_, b1⟩
  rw [aMap_move ha hrv] at a1
  exact a1
theorem aK_call {i kd K n : Nat} {w : Nat × Nat × Nat} {as r : List Value} {a d' : Nat} {M' : aMk} {σ2 : aSt} {S2 : List aSh} {k2 : Nat} (hF : aFx M.1 p s m c args) (hct : aSC aCt (aOwn M.1) (i, kd + 1, K, n, w) = true) (hK : aCt[K]? = some M') (hNest : ∀ w ∈ aNestM, va_Nw w s) (hAO : aAO s) (hX : ∀ a q, X a = some q → 1000 ≤ a) (hC : aCx X S ad cA D tys s.heap.size s)
    (hroom : d' + 7 ≤ R.frames ∧ 41 * (d' + 7) ≤ R.locals ∧ cells + (S2.length - S.length) ≤ R.cells ∧ slots + k2 ≤ R.slots) (hd : decode (aBy M.1) pc = .ok (.invokespecial i, 3)) (hW : aWo S ad cA D s σ H locs) (hl : aLs ad ls (aML M.1) lv) (hfr : aFrA lv st σ S = true) (htk : aTk n [] st = some (as, .ref a :: r)) (hcat : aCat r ≤ 8) (hM : aMetM l d' M' (.ref a :: as) σ S σ2 S2 k2) (hle : S.length ≤ S2.length)
    (kk : aKM p l e R s m args below meth c (cells + (S2.length - S.length)) (slots + k2) Q X S ad D M.1 S2 (pc + 3) lv r σ2) : W p l e R s m args below meth c H locs cells slots Q (F0 m pc ls (st.map (aV ad))) := by
  have hF0 := hF
  obtain ⟨hx, hb, hml, hown, hts⟩ := hF
  obtain ⟨hP, hS⟩ := hW
  obtain ⟨-, hCtC, -⟩ := aCt_ok M' (List.mem_of_getElem? hK)
  simp only [aCtC, aMC, Bool.and_eq_true, decide_eq_true_eq] at hCtC
  obtain ⟨⟨⟨hcode, hplain, hownM⟩, hml22⟩, hinit, hret⟩ := hCtC
  have hml22 := Nat.le_of_ble_eq_true hml22
  have hGI := aGoodIn M'.1 (aWd_mem hcode)
  have hCm : ∀ U : State, U.heap = H → s.WarmedH U.vm → aCx aX0 S ad cA D tys H.size U := fun U hU hWm => by
    have := (hC.moved (U := U) (locs := locs) (by rw [hU]; exact hS) hWm).x0
    rw [hU] at this
    exact this
  have hRR : (aRmM d' (S2.length - S.length) k2).frames + 1 ≤ R.frames ∧ 8 + (aML M'.1 + 11) + (aRmM d' (S2.length - S.length) k2).locals ≤ R.locals := by
    simp only [aRmM]
    omega
  obtain ⟨hlen, hstk⟩ := aTk0 htk
  simp only [aFrA, Bool.and_eq_true] at hfr
  obtain ⟨hlv, hst, hfs, hsz⟩ := hfr
  have hrv : r.all (aFr S.length) = true := by
    rw [hstk, List.all_append, List.all_cons, Bool.and_eq_true, Bool.and_eq_true] at hst
    exact hst.2.2
  simp only [aSC, hK, Bool.and_eq_true, decide_eq_true_eq] at hct
  obtain ⟨⟨hd1, hd2, hd3⟩, ⟨hin, hini⟩, hlk⟩ := hct
  have hpre : PreS s H (aPreM S ad cA D tys H.size (.ref a :: as) σ) (.ref (ad a) :: as.map (aV ad)) := ⟨aPreM_blind, fun U hU hWm => ⟨rfl, by rw [hU]; exact hP, hCm U hU hWm, aNestM_warm hWm hNest, aAO_moved hWm.alike hAO⟩⟩
  match kd, hlk with
  | 0, hlk =>
    have hcw := cwI (R := R) (s := s) (args := args) (own := aOwn M.1) (index := i) (y := aY M'.1) (bytes := aBy M'.1) (maxL := aML M'.1) (ws := aWs M'.1) (rm := aRmM d' (S2.length - S.length) k2) (mc := S2.length - S.length) (ms := k2) n hts hGI (by rw [aWs, hret]) rfl rfl (hts _ (aWd_mem hini)) (hts _ (aWd_mem hlk)) (hts _ (aWd_mem hin)) hinit ⟨hd1, hd2, hd3⟩ hRR
    exact aK_run (M := M) (lv := lv) hX hle hC hlv hrv hS hl (va_runI (b := ad a) (As := as.map (aV ad)) (rest := r.map (aV ad)) hF0 (hM D ad cA tys H.size) hcw hpre rfl (by rw [List.length_map]; exact hlen) hl.1 (by rw [hstk]; simp [aV]) (lv_room (by rw [aCat_sum]; exact hcat)) hd ⟨hroom.2.2.1, hroom.2.2.2⟩) kk
  | kd + 1, hlk =>
    have hlk : Cond.methodLinkNest (aOwn M.1) i (aY M'.1) "HalfDone" ∈ aNestM := by simpa using hlk
    have hcn := va_cnB (R := R) (s := s) (args := args) (own := aOwn M.1) (host := "HalfDone") (index := i) (y := aY M'.1) (bytes := aBy M'.1) (maxL := aML M'.1) (ret := none) (ws := aWs M'.1) (rm := aRmM d' (S2.length - S.length) k2) (mc := S2.length - S.length) (ms := k2) n hts hGI (by rw [aWs, hret]) rfl rfl (hNest _ hlk) (hts _ (aWd_mem hini)) ⟨hd1, hd2, hd3⟩ hRR
    exact aK_run (M := M) (lv := lv) hX hle hC hlv hrv hS hl (va_runIN (b := ad a) (As := as.map (aV ad)) (rest := r.map (aV ad)) hF0 (hM D ad cA tys H.size) ⟨hcn, hinit, hts _ (aWd_mem hin)⟩ hpre rfl (by rw [List.length_map]; exact hlen) hl.1 (by rw [hstk]; simp [aV]) (lv_room (by rw [aCat_sum]; exact hcat)) hd ⟨hroom.2.2.1, hroom.2.2.2⟩) kk
end AS
