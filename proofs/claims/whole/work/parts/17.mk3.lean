/-! SOUNDNESS of the making machine: arrays of arrays, final fields, constructors called -/
section AS
variable {p : Program} {l : Launch} {e : Env} {R : Room} {s : State} {m : MethodId} {args : Array Value} {below : List Frame} {meth : Method} {c : Code} {H : Heap} {locs : List Loc} {cells slots : Nat} {Q : State → Prop}
variable {X : aXt} {S : List aSh} {ad : Nat → Nat} {cA : Nat → ClassId} {D : va_G} {tys : List (ClassId × FieldType)} {pc : Nat} {lv st : List Value} {σ : aSt} {ls : Array Slot} {M : aMk}
theorem aK_multi {i w : Nat} {n k : Int32} (hMna : aMna l) (hAO : aAO s) (hF : aFx M.1 p s m c args) (hmk : M.2.2.2.all (aUC (aOwn M.1)) = true) (hX : ∀ a q, X a = some q → 1000 ≤ a) (hC : aCx X S ad cA D tys s.heap.size s) (hfr : aFrA lv (.int k :: .int n :: st) σ S = true) (hf : aFd M.2.2.2 i = some w) (hn : ¬ n < 0) (hk : ¬ k < 0) (hn2 : n.toNatClampNeg ≤ 60) (hk2 : k.toNatClampNeg ≤ 1000) (hcells : cells + (1 + n.toNatClampNeg) ≤ R.cells) (hslots : slots + (n.toNatClampNeg + n.toNatClampNeg * k.toNatClampNeg) ≤ R.slots) (hd : decode (aBy M.1) pc = .ok (.multianewarray i 2, 4)) (hW : aWo S ad cA D s σ H locs) (hl : aLs ad ls (aML M.1) lv)
    (kk : aKM p l e R s m args below meth c (cells + 1 + n.toNatClampNeg) (slots + n.toNatClampNeg + n.toNatClampNeg * k.toNatClampNeg) Q X S ad D M.1 (S ++ (.inr (4, n.toNatClampNeg) :: List.replicate n.toNatClampNeg (.inr (0, k.toNatClampNeg)))) (pc + 4) lv (.ref S.length :: st) (aNw2 σ S.length n.toNatClampNeg)) : W p l e R s m args below meth c H locs cells slots Q (F0 m pc ls ((.int k :: .int n :: st).map (aV ad))) := by
  obtain ⟨hx, hb, hml, hown, hts⟩ := hF
  obtain ⟨hP, hS⟩ := hW
  have h1 := List.all_eq_true.mp hmk _ (aFd_mem hf)
  simp only [aUC] at h1
  simp only [aFrA, Bool.and_eq_true] at hfr
  obtain ⟨hlv, hst, hfs, hsz⟩ := hfr
  have hsz := Nat.blt_eq.mp hsz
  have hst : st.all (aFr S.length) = true := by
    simp only [List.all_cons, Bool.and_eq_true] at hst
    exact hst.2.2
  refine hMna hx hb hown (hts _ (aWd_mem h1)) hAO (hts _ (aWd_mem aWdA.1)) hC.2.1 hP (aW_D hC.2.2.2.1) hS (fun q hq => Or.inr hq) hn hk hn2 hk2 hcells hslots hd (fun q cO cI H1 hK1 hP1 hD1 hS1 => ?_)
  have ha : ∀ a, a < S.length ∨ 1000 ≤ a → (fun x => if S.length ≤ x ∧ x < S.length + 1 + n.toNatClampNeg then q + (x - S.length) else ad x) a = ad a := by
    intro a h
    have : ¬ (S.length ≤ a ∧ a < S.length + 1 + n.toNatClampNeg) := by omega
    simp only [this, if_false]
  obtain ⟨g1, g2, g3, g4, g5⟩ := aK_grow (N := .inr (4, n.toNatClampNeg) :: List.replicate n.toNatClampNeg (.inr (0, k.toNatClampNeg))) (ad' := fun x => if S.length ≤ x ∧ x < S.length + 1 + n.toNatClampNeg then q + (x - S.length) else ad x) (cA' := fun x => if x = S.length then cO else if S.length < x then cI else cA x) (σ' := aNw2 σ S.length n.toNatClampNeg) (tys' := tys ++ [(cO, .array .int), (cI, .int)]) hX hC hlv hst hfs (by simp) ha (fun i hi => by
      have h2 : i ≠ S.length := by omega
      have h3 : ¬ S.length < i := by omega
      simp only [h2, h3, if_false]) (fun i hi => by
      funext j
      have h2 : i ≠ S.length := by omega
      simp only [aNw2, h2, hi, if_false, if_true]) (fun j sh hj => by
      cases j with
      | zero =>
        cases hj
        show some _ = some _
        refine congrArg some (Prod.ext ?_ ?_)
        · have h2 : S.length ≤ S.length + 0 ∧ S.length + 0 < S.length + 1 + n.toNatClampNeg := by omega
          simp only [h2, and_self, if_true]
          omega
        · show Sum.inl _ = Sum.inl _
          refine congrArg Sum.inl (Prod.ext ?_ (Prod.ext rfl ?_))
          · simp
          · show Sum.inr (Sum.inr (Sum.inr (Sum.inr _))) = Sum.inr (Sum.inr (Sum.inr (Sum.inr _)))
            refine congrArg (fun z => Sum.inr (Sum.inr (Sum.inr (Sum.inr z)))) (funext fun i => ?_)
            simp only [aNw2, Nat.add_zero, if_true]
            by_cases hi : i < n.toNatClampNeg
            · have h2 : S.length ≤ S.length + 1 + i ∧ S.length + 1 + i < S.length + 1 + n.toNatClampNeg := by omega
              simp only [hi, if_true, aRf, h2, and_self]
              exact congrArg some (by omega)
            · simp only [hi, if_false, aRf]
      | succ j =>
        rw [List.getElem?_cons_succ, List.getElem?_replicate] at hj
        split at hj
        · rename_i hjn
          cases hj
          rw [List.getElem?_cons_succ, List.getElem?_map, List.getElem?_range hjn]
          show some _ = some _
          refine congrArg some (Prod.ext ?_ ?_)
          · have h2 : S.length ≤ S.length + (j + 1) ∧ S.length + (j + 1) < S.length + 1 + n.toNatClampNeg := by omega
            simp only [h2, and_self, if_true]
            omega
          · have h2 : S.length + (j + 1) ≠ S.length := by omega
            have h3 : ¬ S.length + (j + 1) < S.length := by omega
            have h4 : S.length < S.length + (j + 1) := by omega
            simp only [aE, aNw2, h2, h3, h4, if_false, if_true, aI]
        · cases hj) hP1 hD1 hS1 hl hK1 (fun k q h => by
      rw [List.getElem?_append_left (List.getElem?_eq_some_iff.mp h).1]
      exact h) (fun j t9 n9 hj => by
      cases j with
      | zero =>
        cases hj
        refine ⟨tys.length, ?_⟩
        rw [List.getElem?_append_right (Nat.le_refl _), Nat.sub_self]
        simp [aFt]
      | succ j =>
        rw [List.getElem?_cons_succ, List.getElem?_replicate] at hj
        split at hj
        · cases hj
          refine ⟨tys.length + 1, ?_⟩
          rw [List.getElem?_append_right (by omega), show tys.length + 1 - tys.length = 1 by omega]
          have h2 : S.length + (j + 1) ≠ S.length := by omega
          have h4 : S.length < S.length + (j + 1) := by omega
          simp only [h2, h4, if_false, if_true, aFt]
          rfl
        · cases hj)
  have h3 := kk _ _ _ H1 locs ls ha g1 g2 g3 g4
  rw [List.map_cons, g5] at h3
  have h2 : S.length ≤ S.length ∧ S.length < S.length + 1 + n.toNatClampNeg := by omega
  simp only [aV, h2, and_self, if_true, Nat.sub_self, Nat.add_zero] at h3
  exact h3
theorem aK_putF {i ci k w a b : Nat} {q : Instr × Nat} (hF : aFx M.1 p s m c args) (hcl : aClC aProg (aCs M.1) = true) (hpf : aPFC M.1 = true) (hnm0 : meth.name = "<init>") (hC : aCx X S ad cA D tys s.heap.size s) (hq : aFd (aCo M.1) pc = some q) (hqi : q.1 = .putfield i) (hf : aFd (aCs M.1).2.1 i = some (ci, k, 9, w)) (hs : S[a]? = some (.inl ci)) (hd : decode (aBy M.1) pc = .ok (.putfield i, 3)) (hW : aWo S ad cA D s σ H locs) (hl : aLs ad ls (aML M.1) lv)
    (kk : aKK p l e R s m args below meth c cells slots Q S M.1 ad cA D (pc + 3, lv, st, aUp σ a k (.ref b))) : W p l e R s m args below meth c H locs cells slots Q (F0 m pc ls ((.ref b :: .ref a :: st).map (aV ad))) := by
  obtain ⟨hx, hb, hml, hown, hts⟩ := hF
  obtain ⟨hP, hS⟩ := hW
  obtain ⟨C, T, N, hc, hk, hlink, hkd⟩ := aFC_inv (aCl_fld hcl hf)
  obtain ⟨ty0, hty, hnm⟩ := aNmX hc
  have h1 := List.all_eq_true.mp hpf _ (aFd_mem hq)
  simp only [hqi, hf, hc] at h1
  simp only [Bool.and_eq_true, decide_eq_true_eq, show Nat.beq 9 9 = true from rfl] at h1
  obtain ⟨h2, h3, h4⟩ := h1
  split at h4
  · rename_i ty hpd
    have hnf : narrow ty (.ref (ad b)) = .ref (ad b) ∧ fits ty (.ref (ad b)) = true := by
      cases ty with
      | object C => exact ⟨rfl, rfl⟩
      | array t => exact ⟨rfl, rfl⟩
      | _ => cases h4
    refine va_putF (v := .ref (ad b)) hx hb hts (aUws_in hc) ty0 hty hnm hown hC.2.1 hP (aW_D hC.2.2.2.1) hS a (aW_at hs) hc k hk (hts _ hlink) (fun _ q => q) h3 hnm0 h2 hpd hnf.1 hnf.2 (by rw [aNf_of hc, List.length_map, List.length_range]; exact hk) hd (fun H1 locs1 hP1 hD1 hS1 => kk H1 locs1 ls ⟨?_, hS1⟩ hl)
    have e2 := aW_up (ad := ad) (cA := cA) (σ := σ) (k := k) (v := .ref b) (e := .inr (ci, ((List.range (aNf ci)).map (fun k => aV ad (σ a k))).set k (aV ad (.ref b)))) hs (by
      rw [aE_obj, aFs_set])
    exact e2 ▸ hP1
  · cases h4
theorem aK_obj {i K n w1 w2 w3 : Nat} {a : Nat} (hF : aFx M.1 p s m c args) (hct : aSC aCt (aOwn M.1) (i, 0, K, n, w1, w2, w3) = true) (hroom : 1 ≤ R.frames ∧ 60 ≤ R.locals) (hcat : aCat st ≤ 8) (hd : decode (aBy M.1) pc = .ok (.invokespecial i, 3)) (hl : aLs ad ls (aML M.1) lv)
    (kk : W p l e R s m args below meth c H locs cells slots Q (F0 m (pc + 3) ls (st.map (aV ad)))) : W p l e R s m args below meth c H locs cells slots Q (F0 m pc ls ((.ref a :: st).map (aV ad))) := by
  obtain ⟨hx, hb, hml, hown, hts⟩ := hF
  simp only [aSC, Bool.and_eq_true] at hct
  obtain ⟨h1, h2, h3⟩ := hct
  have h4 : 2 * (F0 m pc ls ((.ref a :: st).map (aV ad))).monitorRoom + ((st.map (aV ad)).map fun v => v.category).sum ≤ 8 := lv_room (by rw [aCat_sum]; exact hcat)
  exact W.objInit hx hb hown (hts _ (aWd_mem h1)) (hts _ (aWd_mem h2)) (hts _ (aWd_mem h3)) (g := F0 m pc ls ((.ref a :: st).map (aV ad))) rfl (by rw [hml]; exact hl.1) (a := ad a) (rest := st.map (aV ad)) rfl hd hroom.1 (by omega) kk
end AS
/-- a constructor's contract -/
def aQm (S : List aSh) (ad : Nat → Nat) (D : va_G) (S' : List aSh) (σ' : aSt) (A : Nat → Prop) : Array Value → State → Outcome → State → Prop :=
  fun _ st o t => o = .returned none ∧ ∃ (ad' : Nat → Nat) (cA' : Nat → ClassId) (tys' : List (ClassId × FieldType)), (∀ a, a < S.length ∨ 1000 ≤ a → ad' a = ad a) ∧ va_P D vwCl (aW ad' cA' S' σ') t.heap ∧ va_K D vwCl tys' t ∧ (∀ i t n : Nat, S'[i]? = some (.inr (t, n)) → ∃ t0 : Nat, tys'[t0]? = some (cA' i, aFt t)) ∧ aInj ad' S' ∧ (∀ i, S.length ≤ i → i < S'.length → st.heap.size ≤ ad' i) ∧ va_F A st t
def aPreM (S : List aSh) (ad : Nat → Nat) (cA : Nat → ClassId) (D : va_G) (tys : List (ClassId × FieldType)) (sz : Nat) (as : List Value) (σ : aSt) : Array Value → State → Prop :=
  va_Pc (as.map (aV ad)) (fun U => va_P D vwCl (aW ad cA S σ) U.heap ∧ aCx aX0 S ad cA D tys sz U ∧ (∀ w ∈ aNestM, va_Nw w U) ∧ aAO U)
def aRmM (d mc ms : Nat) : Room := { frames := d + 6, cells := mc, slots := ms, locals := 41 * (d + 6) }
def aMetM (l : Launch) (d : Nat) (M : aMk) (as : List Value) (σ : aSt) (S : List aSh) (σ' : aSt) (S' : List aSh) (k' : Nat) : Prop :=
  ∀ (D : va_G) (ad : Nat → Nat) (cA : Nat → ClassId) (tys : List (ClassId × FieldType)) (sz : Nat), Met l (aY M.1) (aWs M.1) (aRmM d (S'.length - S.length) k') (aPreM S ad cA D tys sz as σ) (aQm S ad D S' σ' (aA ad S sz)) (S'.length - S.length) k' (aA ad S sz)
theorem aCx.x0 {X : aXt} {S : List aSh} {ad : Nat → Nat} {cA : Nat → ClassId} {D : va_G} {tys : List (ClassId × FieldType)} {sz : Nat} {U : State} (hC : aCx X S ad cA D tys sz U) : aCx aX0 S ad cA D tys sz U := by
  obtain ⟨h1, h2, h3, h4, h5, h6⟩ := hC
  exact ⟨h1, h2, h3, h4, fun a n f _ h => absurd h (by simp [aX0]), h6⟩
theorem aNestM_warm {s U : State} (hW : s.WarmedH U.vm) (h : ∀ w ∈ aNestM, va_Nw w s) : ∀ w ∈ aNestM, va_Nw w U := by
  intro w hw
  have := h w hw
  simp only [aNestM, List.mem_cons, List.not_mem_nil, or_false] at hw
  repeat' (rcases hw with rfl | hw)
  all_goals first
    | exact va_Nw.warmM hW this
    | (subst hw; exact va_Nw.warmM hW this)
theorem aNestM_same {s U : State} (hv : U.vm = s.vm) (h : ∀ w ∈ aNestM, va_Nw w s) : ∀ w ∈ aNestM, va_Nw w U := by
  intro w hw
  have := h w hw
  simp only [aNestM, List.mem_cons, List.not_mem_nil, or_false] at hw
  repeat' (rcases hw with rfl | hw)
  all_goals first
    | exact va_Nw.same rfl hv.symm this
    | (subst hw; exact va_Nw.same rfl hv.symm this)
theorem aPreM_blind {S : List aSh} {ad : Nat → Nat} {cA : Nat → ClassId} {D : va_G} {tys : List (ClassId × FieldType)} {sz : Nat} {as : List Value} {σ : aSt} : FrameBlind (aPreM S ad cA D tys sz as σ) := by
  intro a U g mk q
  obtain ⟨q0, qP, qC, qN, qA⟩ := q
  exact ⟨q0, qP, aCx.blind (U := U) (V := U.calling g mk a) rfl rfl qC, aNestM_same (s := U) (U := U.calling g mk a) rfl qN, aAO_moved (u := U) (U := U.calling g mk a) (Vm.Alike.refl U.vm) qA⟩
