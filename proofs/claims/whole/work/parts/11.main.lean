/-! SOUNDNESS of calls, and of a whole run: what the abstract machine comes to, the JVM comes to -/
theorem aCC_inv {P : List aM} {own : String} {i kd K n : Nat} {w : Nat × Nat × Nat × Nat} {M' : aM} (h : aCC P own (i, kd, K, n, w) = true) (hk : kd ≠ 0) (hK : P[K]? = some M') :
    Cond.methodLink own i (aY M') ∈ aTB ∧ Cond.initialized (aY M').cls ∈ aTB ∧ ((aY M').cls ≠ "java/lang/invoke/MethodHandle" ∧ (aY M').cls ≠ "java/lang/invoke/VarHandle" ∧ (parseMethodDescriptor (aY M').desc).map (fun d => d.parameters.length) = some n) ∧
    ((kd = 1 ∧ Cond.static (aY M') ∈ aTB) ∨ ∃ (ci : Nat) (r : vw_C), kd = ci + 2 ∧ vwCl[ci]? = some r ∧ r.1 = (aY M').cls ∧ Cond.instanceMethod (aY M') ∈ aTB ∧ Cond.selects (aY M').cls (aY M') (aY M') ∈ aTB) := by
  unfold aCC at h
  split at h
  · rename_i hb
    exact absurd (Nat.eq_of_beq_eq_true hb) hk
  · rw [hK] at h
    simp only [Bool.and_eq_true, decide_eq_true_eq] at h
    obtain ⟨⟨⟨h1, h2⟩, h3, h4, h5⟩, h6⟩ := h
    refine ⟨aWd_mem h1, aWd_mem h2, ⟨h3, h4, h5⟩, ?_⟩
    match kd, hk, h6 with
    | 0, hk, _ => exact absurd rfl hk
    | 1, _, h6 => exact Or.inl ⟨rfl, aWd_mem h6⟩
    | ci + 2, _, h6 =>
      simp only at h6
      split at h6
      · rename_i r hr
        simp only [Bool.and_eq_true, decide_eq_true_eq] at h6
        exact Or.inr ⟨ci, r, rfl, hr, h6.1, aWd_mem h6.2.1, aWd_mem h6.2.2⟩
      · cases h6
theorem aMap_toList (ad : Nat → Nat) (v : Option Value) (r : List Value) : (v.map (aV ad)).toList ++ r.map (aV ad) = (v.toList ++ r).map (aV ad) := by
  cases v <;> rfl
section AS
variable {p : Program} {l : Launch} {e : Env} {R : Room} {s : State} {m : MethodId} {args : Array Value} {below : List Frame} {meth : Method} {c : Code} {H : Heap} {locs : List Loc} {cells slots : Nat} {Q : State → Prop}
variable {X : aXt} {S : List aSh} {P : List aM} {M : aM} {ad : Nat → Nat} {cA : Nat → ClassId} {D : va_G} {tys : List (ClassId × FieldType)} {pc : Nat} {lv st : List Value} {σ : aSt} {ls : Array Slot} {z : aC}
/-- behind a call -/
theorem aW_run {st0 r : List Value} {v : Option Value} {σ2 : aSt} (hC : aCx X S ad cA D tys s.heap.size s) (hS : va_S (aA ad S s.heap.size) s.heap H locs) (hl : aLs ad ls (aML M) lv)
    (hr : va_Run p l e R s m args below meth c H locs cells slots 0 0 (F0 m pc ls st0) (r.map (aV ad)) (fun st o t => o = .returned (v.map (aV ad)) ∧ va_P D vwCl (aW ad cA S σ2) t.heap ∧ va_F (aA ad S H.size) st t) (aA ad S H.size))
    (kk : aKK p l e R s m args below meth c cells slots Q S M ad cA D (pc + 3, lv, v.toList ++ r, σ2)) : W p l e R s m args below meth c H locs cells slots Q (F0 m pc ls st0) := by
  intro T hT X0
  obtain ⟨v', st₀, t, T', L, h0, X', hL, e1, e2, ⟨hv, hP, hz, hk⟩, st⟩ := hr T hT X0
  cases hv
  rw [h0] at hz hk
  have hA : ∀ q, q < H.size → aA ad S H.size q → aA ad S s.heap.size q := fun q hq h => h.elim Or.inl (fun h => absurd h (by omega))
  obtain ⟨t2, a1, b1⟩ := kk T'.heap (locs ++ L) ls ⟨by rw [e1]; exact hP, ⟨Nat.le_trans hS.1 (by rw [e1]; exact hz), fun q h1 h2 => by rw [e1, hk q (Nat.lt_of_lt_of_le h1 hS.1) (fun z => h2 (hA q (Nat.lt_of_lt_of_le h1 hS.1) z))]; exact hS.2.1 q h1 h2, fun q hq => by
      rcases List.mem_append.mp hq with h | h
      · exact hS.2.2 q h
      · exact (hL q h).elim Or.inl (fun z => Or.inr (Nat.le_trans hS.1 z))⟩⟩ hl T' rfl X'
  refine ⟨t2, st t2 ?_, b1⟩
  have := a1
  rw [← aMap_toList] at this
  exact this
set_option maxHeartbeats 4000000 in
theorem aS_call {ins : Instr} {len K : Nat} {as : List Value} {d' : Nat} {M' : aM} {v : Option Value} {σ2 : aSt} (hF : aFx M p s m c args) (hG : ∀ M ∈ P, aMC M = true ∧ aCoC M = true ∧ (aClC P (aCs M) = true ∧ aStrOK (aCs M) = true)) (hcl : aClC P (aCs M) = true) (hC : aCx X S ad cA D tys s.heap.size s) (hroom : d' + 7 ≤ R.frames ∧ 41 * (d' + 7) ≤ R.locals ∧ cells ≤ R.cells ∧ slots ≤ R.slots) (hd : decode (aBy M) pc = .ok (ins, len)) (hn : len = aLn ins len) (hW : aWo S ad cA D s σ H locs) (hl : aLs ad ls (aML M) lv)
    (h : aIns X S M pc ins lv st σ = some (.inr (.inr (K, as, z)))) (hK : P[K]? = some M') (hM : aMet X S l d' M' as z.2.2.2 v σ2) (kk : aKK p l e R s m args below meth c cells slots Q S M ad cA D (z.1, z.2.1, v.toList ++ z.2.2.1, σ2)) : W p l e R s m args below meth c H locs cells slots Q (F0 m pc ls (st.map (aV ad))) := by
  have hF0 := hF
  obtain ⟨hx, hb, hml, hown, hts⟩ := hF
  obtain ⟨hP, hS⟩ := hW
  obtain ⟨hMC, -, -⟩ := hG M' (List.mem_of_getElem? hK)
  simp only [aMC, Bool.and_eq_true, decide_eq_true_eq] at hMC
  obtain ⟨⟨hcode, hplain, hownM⟩, hml22⟩ := hMC
  have hml22 := Nat.le_of_ble_eq_true hml22
  have hcode := aWd_mem hcode
  have hGI := aGoodIn M' hcode
  have hCm : ∀ U : State, U.heap = H → s.WarmedH U.vm → aCx X S ad cA D tys H.size U := fun U hU hWm => by
    have := hC.moved (U := U) (locs := locs) (by rw [hU]; exact hS) hWm
    rw [hU] at this
    exact this
  have hRR : (aRm d').frames + 1 ≤ R.frames ∧ 8 + (aML M' + 11) + (aRm d').locals ≤ R.locals := by
    simp only [aRm]
    omega
  rcases aIns_kind h with rfl | rfl | rfl | ⟨i, rfl⟩ | ⟨i, rfl⟩
  · exfalso
    simp only [aIns] at h
    repeat' (split at h)
    all_goals cases h
  · exfalso
    simp only [aIns] at h
    repeat' (split at h)
    all_goals cases h
  · exfalso
    simp only [aIns] at h
    repeat' (split at h)
    all_goals cases h
  · rw [hn] at hd
    simp only [aIns] at h
    split at h
    · rename_i kd K0 n w hf
      split at h
      · exfalso
        simp only [aPrim, aGd, aGo] at h
        repeat' (split at h)
        all_goals cases h
      · split at h
        · rename_i as0 r htk
          split at h
          · rename_i hk
            cases h
            rw [Bool.and_eq_true] at hk
            obtain ⟨hk1, hk2⟩ := hk
            have hk1 := Nat.eq_of_beq_eq_true hk1
            have hk2 := Nat.le_of_ble_eq_true hk2
            subst hk1
            have hcc : aCC P (aOwn M) (i, 1, K, n, w) = true := by
              simp only [aClC, Bool.and_eq_true] at hcl
              exact List.all_eq_true.mp hcl.2.1 _ (aFd_mem hf)
            obtain ⟨hlink, hini, hdesc, hst⟩ := aCC_inv hcc (by decide) hK
            have hst : Cond.static (aY M') ∈ aTB := by
              rcases hst with ⟨-, h⟩ | ⟨ci, r, h, -⟩
              · exact h
              · omega
            obtain ⟨hlen, hstk⟩ := aTk0 htk
            have hcw : CallB R s args (aOwn M) i (aY M') (aBy M') (aML M') (aRt M') (aWs M') (aRm d') 0 0 n ∧ (Cond.static (aY M')).before args s = true := ⟨callB_of n hts hGI rfl rfl rfl (hts _ hini) (hts _ hlink) hdesc hRR, hts _ hst⟩
            refine aW_run (M := M) (lv := lv) hC hS hl (va_runS (As := as.map (aV ad)) (rest := r.map (aV ad)) ⟨hx, hb, hml, hown, hts⟩ (hM D ad cA tys H.size) hcw ⟨aPre_blind, fun U hU hWm => ⟨rfl, by rw [hU]; exact hP, hCm U hU hWm⟩⟩ rfl (by rw [List.length_map]; exact hlen) hl.1 (by rw [hstk]; simp) (lv_room (by rw [aCat_sum]; exact hk2)) hd ⟨by omega, by omega⟩) kk
          · cases h
        · cases h
    · cases h
  · rw [hn] at hd
    simp only [aIns] at h
    split at h
    · rename_i kd K0 n w hf
      split at h
      · rename_i as0 a r htk
        split at h
        · rename_i cj hs
          split at h
          · rename_i hk
            cases h
            rw [Bool.and_eq_true] at hk
            obtain ⟨hk1, hk2⟩ := hk
            have hk1 := Nat.eq_of_beq_eq_true hk1
            have hk2 := Nat.le_of_ble_eq_true hk2
            subst hk1
            have hcc : aCC P (aOwn M) (i, cj + 2, K, n, w) = true := by
              simp only [aClC, Bool.and_eq_true] at hcl
              exact List.all_eq_true.mp hcl.2.1 _ (aFd_mem hf)
            obtain ⟨hlink, hini, hdesc, hst⟩ := aCC_inv hcc (by omega) hK
            obtain ⟨rr, hr, hcn, hinst, hsel⟩ : ∃ r : vw_C, vwCl[cj]? = some r ∧ r.1 = (aY M').cls ∧ Cond.instanceMethod (aY M') ∈ aTB ∧ Cond.selects (aY M').cls (aY M') (aY M') ∈ aTB := by
              rcases hst with ⟨h, -⟩ | ⟨ci, r, h, h1, h2, h3, h4⟩
              · omega
              · have : ci = cj := by omega
                subst this
                exact ⟨r, h1, h2, h3, h4⟩
            obtain ⟨hlen, hstk⟩ := aTk0 htk
            have hcw : CallW R s args (aOwn M) (aY M').cls i (aY M') (aBy M') (aML M') (aRt M') (aWs M') (aRm d') 0 0 n := ⟨callB_of n hts hGI rfl rfl rfl (hts _ hini) (hts _ hlink) hdesc hRR, hts _ hinst, hts _ hsel⟩
            have hrec := va_recv hC.2.1 hP hr (aW_at hs)
            rw [hcn] at hrec
            refine aW_run (M := M) (lv := lv) hC hS hl (va_runV (b := ad a) (As := as0.map (aV ad)) (rest := r.map (aV ad)) ⟨hx, hb, hml, hown, hts⟩ (hM D ad cA tys H.size) hcw ⟨aPre_blind, hrec, fun U hU hWm => ⟨rfl, by rw [hU]; exact hP, hCm U hU hWm⟩⟩ rfl (by rw [List.length_map]; exact hlen) hl.1 (by rw [hstk]; simp [aV]) (lv_room (by rw [aCat_sum]; exact hk2)) hd ⟨by omega, by omega⟩) kk
          · cases h
        · cases h
      · cases h
    · cases h
end AS
/-- a whole run from a frame -/
theorem aSound (X : aXt) (S : List aSh) (P : List aM) (hG : ∀ M ∈ P, aMC M = true ∧ aCoC M = true ∧ (aClC P (aCs M) = true ∧ aStrOK (aCs M) = true)) (l : Launch) : ∀ (f d : Nat) (M : aM) (pc : Nat) (lv st : List Value) (σ : aSt) (v : Option Value) (σ' : aSt), aExec X S P f d M pc lv st σ = some (v, σ') → aCoC M = true → (aClC P (aCs M) = true ∧ aStrOK (aCs M) = true) →
    ∀ {p : Program} {e : Env} {R : Room} {s : State} {m : MethodId} {args : Array Value} {below : List Frame} {meth : Method} {c : Code} {H : Heap} {locs : List Loc} {cells slots : Nat} {ad : Nat → Nat} {cA : Nat → ClassId} {D : va_G} {tys : List (ClassId × FieldType)} {ls : Array Slot},
      aFx M p s m c args → meth.sig.returnType = aRt M → meth.locks = false → aCx X S ad cA D tys s.heap.size s → (d + 6 ≤ R.frames ∧ 41 * (d + 6) ≤ R.locals ∧ cells ≤ R.cells ∧ slots ≤ R.slots) → aWo S ad cA D s σ H locs → aLs ad ls (aML M) lv →
      W p l e R s m args below meth c H locs cells slots (MQ below (aQc S ad cA D v σ' (aA ad S s.heap.size)) args s cells slots (aA ad S s.heap.size)) (F0 m pc ls (st.map (aV ad))) := by
  intro f
  induction f with
  | zero => intro d M pc lv st σ v σ' h; cases h
  | succ f ih =>
    intro d M pc lv st σ v σ' h hMo hcl p e R s m args below meth c H locs cells slots ad cA D tys ls hF hr hlocks hC hroom hW hl
    rw [aExec] at h
    cases hstep : aStep X S M pc lv st σ with
    | none => rw [hstep] at h; cases h
    | some r =>
      rw [hstep] at h
      unfold aStep at hstep
      split at hstep
      · rename_i q hq
        obtain ⟨hd, hn⟩ := aCo_dec hMo hq
        match r, h, hstep with
        | .inl (pc', lv', st', σ1), h, hstep =>
          simp only at h
          exact aS_go hF hcl.1 hcl.2 hC ⟨by omega, by omega, hroom.2.2.1, hroom.2.2.2⟩ hd hn hW hl hstep (fun H1 locs1 ls1 hW1 hl1 => ih d M pc' lv' st' σ1 v σ' h hMo hcl hF hr hlocks hC hroom hW1 hl1)
        | .inr (.inl (v1, σ1)), h, hstep =>
          simp only at h
          cases h
          refine aS_ret hF hr hlocks hd hn hstep (fun e t ht hWm => ?_) hW.2.2.2
          subst e
          exact ⟨rfl, by rw [ht]; exact hW.1, hW.2.F ht⟩
        | .inr (.inr (K, as, (pc', lv', st', σ1))), h, hstep =>
          simp only at h
          match d, h, hroom with
          | 0, h, _ => cases h
          | d' + 1, h, hroom =>
            simp only at h
            split at h
            · cases h
            · rename_i M' hK
              split at h
              · cases h
              · rename_i hble
                split at h
                · cases h
                · rename_i v2 σ2 hex
                  have hM' := hG M' (List.mem_of_getElem? hK)
                  have hble := Nat.le_of_ble_eq_true hble
                  have hMet : aMet X S l d' M' as σ1 v2 σ2 := by
                    intro D ad cA tys sz
                    have hpl : plainName (aY M').cls = true ∧ (aY M').cls = aOwn M' := by
                      have := hM'.1
                      simp only [aMC, Bool.and_eq_true, decide_eq_true_eq] at this
                      exact this.1.2
                    refine Met.ofW (cc := aBy M') (maxL := aML M') (ret := aRt M') hpl.1 rfl ?_
                    intro p e s m args below meth c s₁ B hml hv
                    obtain ⟨rfl, hP, hC⟩ := hv
                    have hx := B.exec
                    have hb := B.bytes
                    have hr := B.returns
                    have hts := atoms_spec (ws := aWs M') B.pre
                    have hown : s.vm.findClass (aOwn M') = some m.cls := by
                      rw [← hpl.2]
                      exact findClass_of_methodNamed B.named
                    have hlocks := B.notSynchronized
                    have hsz := hC.1
                    subst hsz
                    have hent := lv_entry (as.map (aV ad)) (n := aML M') (by rw [aArg_len]; exact hble)
                    rw [lg_entry_eq]
                    exact ih d' M' 0 (aEnt M' as) [] σ1 v2 σ2 hex hM'.2.1 hM'.2.2 (cells := 0) (slots := 0) ⟨hx, hb, hml, hown, fun w hw => hts w (List.mem_cons_of_mem _ hw)⟩ hr hlocks hC ⟨Nat.le_refl _, Nat.le_refl _, Nat.le_refl _, Nat.le_refl _⟩ ⟨hP, va_S.rf⟩ (aLs_ent hble hent)
                  exact aS_call (d' := d') hF hG hcl.1 hC ⟨by omega, by omega, hroom.2.2.1, hroom.2.2.2⟩ hd hn hW hl hstep hK hMet (fun H1 locs1 ls1 hW1 hl1 => ih (d' + 1) M pc' lv' (v2.toList ++ st') σ2 v σ' h hMo hcl hF hr hlocks hC hroom hW1 hl1)
      · cases hstep
