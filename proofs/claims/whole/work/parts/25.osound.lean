/-! SOUNDNESS of runs with methods told ahead -/
/-- the methods told ahead keep what is told of them -/
def oOk (X : aXt) (S : List aSh) (P : List aM) (l : Launch) : Prop := ∀ (K : Nat) (as : List Value) (v : Value), oOr K as = some v → ∃ M', P[K]? = some M' ∧ ∀ (d : Nat), 5 ≤ d → ∀ (σ : aSt), aMet X S l d M' as σ (some v) σ
theorem oSound (X : aXt) (S : List aSh) (P : List aM) (hG : ∀ M ∈ P, aMC M = true ∧ aCoC M = true ∧ (aClC P (aCs M) = true ∧ aStrOK (aCs M) = true)) (l : Launch) (hO : oOk X S P l) : ∀ (f d : Nat) (M : aM) (pc : Nat) (lv st : List Value) (σ : aSt) (v : Option Value) (σ' : aSt), oExec X S P f d M pc lv st σ = some (v, σ') → aCoC M = true → (aClC P (aCs M) = true ∧ aStrOK (aCs M) = true) →
    ∀ {p : Program} {e : Env} {R : Room} {s : State} {m : MethodId} {args : Array Value} {below : List Frame} {meth : Method} {c : Code} {H : Heap} {locs : List Loc} {cells slots : Nat} {ad : Nat → Nat} {cA : Nat → ClassId} {D : va_G} {tys : List (ClassId × FieldType)} {ls : Array Slot},
      aFx M p s m c args → meth.sig.returnType = aRt M → meth.locks = false → aCx X S ad cA D tys s.heap.size s → (d + 6 ≤ R.frames ∧ 41 * (d + 6) ≤ R.locals ∧ cells ≤ R.cells ∧ slots ≤ R.slots) → aWo S ad cA D s σ H locs → aLs ad ls (aML M) lv →
      W p l e R s m args below meth c H locs cells slots (MQ below (aQc S ad cA D v σ' (aA ad S s.heap.size)) args s cells slots (aA ad S s.heap.size)) (F0 m pc ls (st.map (aV ad))) := by
  intro f
  induction f with
  | zero => intro d M pc lv st σ v σ' h; cases h
  | succ f ih =>
    intro d M pc lv st σ v σ' h hMo hcl p e R s m args below meth c H locs cells slots ad cA D tys ls hF hr hlocks hC hroom hW hl
    rw [oExec] at h
    cases hstep : aStep X S M pc lv st σ with
    | none => rw [hstep] at h; cases h
    | some r =>
      rw [hstep] at h
      unfold aStep at hstep
      split at hstep
      · rename_i q hq
        obtain ⟨hd, hn⟩ := aCo_dec hMo hq
        match r, h, hstep with
        | .inl (pc', lv', st', σ1), h, hstep =>
          simp only at h
          exact aS_go hF hcl.1 hcl.2 hC ⟨by omega, by omega, hroom.2.2.1, hroom.2.2.2⟩ hd hn hW hl hstep (fun H1 locs1 ls1 hW1 hl1 => ih d M pc' lv' st' σ1 v σ' h hMo hcl hF hr hlocks hC hroom hW1 hl1)
        | .inr (.inl (v1, σ1)), h, hstep =>
          simp only at h
          cases h
          refine aS_ret hF hr hlocks hd hn hstep (fun e t ht hWm => ?_) hW.2.2.2
          subst e
          exact ⟨rfl, by rw [ht]; exact hW.1, hW.2.F ht⟩
        | .inr (.inr (K, as, (pc', lv', st', σ1))), h, hstep =>
          simp only at h
          match d, h, hroom with
          | 0, h, _ => cases h
          | d' + 1, h, hroom =>
            simp only at h
            split at h
            · rename_i v0 ho
              obtain ⟨M', hK, hMet⟩ := hO K as v0 ho
              split at h
              case h_2 => cases h
              rename_i h5
              exact aS_call (d' := d') hF hG hcl.1 hC ⟨by omega, by omega, hroom.2.2.1, hroom.2.2.2⟩ hd hn hW hl hstep hK (hMet d' (Nat.le_of_ble_eq_true h5) σ1) (fun H1 locs1 ls1 hW1 hl1 => ih (d' + 1) M pc' lv' (v0 :: st') σ1 v σ' h hMo hcl hF hr hlocks hC hroom hW1 hl1)
            · split at h
              · cases h
              · rename_i M' hK
                split at h
                · cases h
                · rename_i hble
                  split at h
                  · cases h
                  · rename_i v2 σ2 hex
                    have hM' := hG M' (List.mem_of_getElem? hK)
                    have hble := Nat.le_of_ble_eq_true hble
                    have hMet : aMet X S l d' M' as σ1 v2 σ2 := by
                      intro D ad cA tys sz
                      have hpl : plainName (aY M').cls = true ∧ (aY M').cls = aOwn M' := by
                        have := hM'.1
                        simp only [aMC, Bool.and_eq_true, decide_eq_true_eq] at this
                        exact this.1.2
                      refine Met.ofW (cc := aBy M') (maxL := aML M') (ret := aRt M') hpl.1 rfl ?_
                      intro p e s m args below meth c s₁ B hml hv
                      obtain ⟨rfl, hP, hC⟩ := hv
                      have hx := B.exec
                      have hb := B.bytes
                      have hr := B.returns
                      have hts := atoms_spec (ws := aWs M') B.pre
                      have hown : s.vm.findClass (aOwn M') = some m.cls := by
                        rw [← hpl.2]
                        exact findClass_of_methodNamed B.named
                      have hlocks := B.notSynchronized
                      have hsz := hC.1
                      subst hsz
                      have hent := lv_entry (as.map (aV ad)) (n := aML M') (by rw [aArg_len]; exact hble)
                      rw [lg_entry_eq]
                      exact ih d' M' 0 (aEnt M' as) [] σ1 v2 σ2 hex hM'.2.1 hM'.2.2 (cells := 0) (slots := 0) ⟨hx, hb, hml, hown, fun w hw => hts w (List.mem_cons_of_mem _ hw)⟩ hr hlocks hC ⟨Nat.le_refl _, Nat.le_refl _, Nat.le_refl _, Nat.le_refl _⟩ ⟨hP, va_S.rf⟩ (aLs_ent hble hent)
                    exact aS_call (d' := d') hF hG hcl.1 hC ⟨by omega, by omega, hroom.2.2.1, hroom.2.2.2⟩ hd hn hW hl hstep hK hMet (fun H1 locs1 ls1 hW1 hl1 => ih (d' + 1) M pc' lv' (v2.toList ++ st') σ2 v σ' h hMo hcl hF hr hlocks hC hroom hW1 hl1)
      · cases hstep
