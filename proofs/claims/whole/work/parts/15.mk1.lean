/-! SOUNDNESS of the making machine, its steps -/
def aNR (v : Value) : Bool := match v with
  | .ref _ => false
  | _ => true
theorem aV_nr {ad : Nat → Nat} {v : Value} (h : aNR v = true) : aV ad v = v := by
  cases v with
  | ref a => cases h
  | _ => rfl
def aDfC : Bool := (List.range 13).all (fun ci => match vwCl[ci]? with
  | some r => (List.range r.2.2).all (fun k => decide ((parseFieldDescriptor (r.2.1 k).2.2.1).map defaultValue = some (aDf ci k)) && aNR (aDf ci k))
  | none => false)
set_option maxRecDepth 100000 in
theorem aDfC_ok : aDfC = true := by decide +kernel
theorem aDf_ok {ci : Nat} {C : String} {T : u_T} {N : Nat} (h : vwCl[ci]? = some (C, T, N)) : ∀ k, k < N → (parseFieldDescriptor (T k).2.2.1).map defaultValue = some (aDf ci k) ∧ aNR (aDf ci k) = true := by
  intro k hk
  have hl : ci < 13 := (List.getElem?_eq_some_iff.mp h).1
  have h1 := List.all_eq_true.mp aDfC_ok ci (List.mem_range.mpr hl)
  rw [h] at h1
  have h2 := List.all_eq_true.mp h1 k (List.mem_range.mpr hk)
  simp only [Bool.and_eq_true, decide_eq_true_eq] at h2
  exact h2
/-- final fields, set by their own class's constructor -/
def aPFC (M : aM) : Bool := (aCo M).all (fun q => match q.2.1 with
  | .putfield i => match aFd (aCs M).2.1 i with
    | some (ci, k, kd, _) => match Nat.beq kd 9 with
      | true => (match vwCl[ci]? with
        | some r => decide ((r.2.1 k).1 = aOwn M) && ((r.2.1 k).2.2.2 && (match parseFieldDescriptor (r.2.1 k).2.2.1 with
          | some ty => ty.isReference
          | none => false))
        | none => false)
      | false => true
    | none => false
  | _ => true)
set_option maxRecDepth 100000 in
theorem aPFC_all : aCt.all (fun M => aPFC M.1) = true := by decide +kernel
theorem aWdA : aWd 174 (.arrayClass .int) = true ∧ aWd 1341 (.arrayClass .byte) = true ∧ aWd 1532 (.arrayClass .boolean) = true ∧ aWd 2035 (.arrayClass .long) = true := by decide +kernel
def aAO (U : State) : Prop := (Cond.arrayOver (.array .int)).before #[] U = true
theorem aAO_moved {u U : State} (hvm : u.vm.Alike U.vm) (h : aAO u) : aAO U := by
  obtain ⟨comp, c, k, h1, h2, h3, h4, h5⟩ := arrayOverA_spec h
  obtain ⟨k', hk', he⟩ := hvm.2.2 _ _ h3
  have hi : (U.vm.classes.findIdx? fun (x : Class) => match x.kind with | .array component _ => component == comp | _ => false) = some c := by
    have e1 := va_idx_bare U.vm comp
    rw [hvm.bare_eq] at e1
    exact e1.symm.trans ((va_idx_bare u.vm comp).trans h2)
  have hkind : k'.kind = .array comp (.array .int) := by rw [he]; exact h4
  have f1 : U.vm.findClass (FieldType.array .int).toString = some comp := by rw [hvm.findClass]; exact h1
  have f2 : U.vm.findClass ("[" ++ (FieldType.array .int).toString) = some c := by rw [hvm.findClass]; exact h5
  unfold aAO Cond.before Cond.holds
  simp only [Cond.value]
  rw [f1, Option.bind_some]
  refine (congrArg (fun o : Option Nat => (o.bind (fun c => (U.vm.classes[c]?).map fun (k : Class) => match k.kind with | .array _ ty => decide (ty = FieldType.array .int) && decide (U.vm.findClass ("[" ++ (FieldType.array .int).toString) = some c) | _ => false) == some true)) hi).trans ?_
  simp [hk', hkind, f2]
section AS
variable {p : Program} {l : Launch} {e : Env} {R : Room} {s : State} {m : MethodId} {args : Array Value} {below : List Frame} {meth : Method} {c : Code} {H : Heap} {locs : List Loc} {cells slots : Nat} {Q : State → Prop}
variable {X : aXt} {S : List aSh} {ad : Nat → Nat} {cA : Nat → ClassId} {D : va_G} {tys : List (ClassId × FieldType)} {pc : Nat} {lv st : List Value} {σ : aSt} {ls : Array Slot}
/-- the old cells keep their addresses, the new ones lie apart -/
theorem aK_grow {N : List aSh} {new : va_W} {n : Nat} {ad' : Nat → Nat} {cA' : Nat → ClassId} {σ' : aSt} {tys' : List (ClassId × FieldType)} (hX : ∀ a q, X a = some q → 1000 ≤ a) (hC : aCx X S ad cA D tys s.heap.size s) (hlv : lv.all (aFr S.length) = true) (hst : st.all (aFr S.length) = true) (hfr : aFrS S.length σ 0 S = true) (hlen : new.length = N.length)
    (ha : ∀ a, a < S.length ∨ 1000 ≤ a → ad' a = ad a) (hc : ∀ i, i < S.length → cA' i = cA i) (hs : ∀ i, i < S.length → σ' i = σ i)
    (hnew : ∀ (j : Nat) (sh : aSh), N[j]? = some sh → new[j]? = some (ad' (S.length + j), aE ad' (cA' (S.length + j)) (σ' (S.length + j)) sh))
    (hP : va_P D vwCl (aW ad cA S σ ++ new) H) (hD : va_D (aA ad S s.heap.size) (aW ad cA S σ ++ new)) (hS : va_S (aA ad S s.heap.size) s.heap H locs) (hl : aLs ad ls n lv)
    (hK : va_K D vwCl tys' s) (hT0 : ∀ (k : Nat) (q : ClassId × FieldType), tys[k]? = some q → tys'[k]? = some q) (hT : ∀ j t n : Nat, N[j]? = some (.inr (t, n)) → ∃ t0 : Nat, tys'[t0]? = some (cA' (S.length + j), aFt t)) :
    aCx X (S ++ N) ad' cA' D tys' s.heap.size s ∧ (∀ q, aA ad' (S ++ N) s.heap.size q ↔ aA ad S s.heap.size q) ∧ aWo (S ++ N) ad' cA' D s σ' H locs ∧ aLs ad' ls n lv ∧ st.map (aV ad') = st.map (aV ad) := by
  obtain ⟨h1, h2, h3⟩ := aW_grow hfr hlen ha hc hs hnew hP hD
  have hge : ∀ i, S.length ≤ i → i < (S ++ N).length → s.heap.size ≤ ad' i := by
    intro i h4 h5
    rcases h3 i h4 h5 with ⟨j, hj, e⟩ | h
    · have := h2 j i (by rw [List.length_append]; omega) h5 (by rw [ha j (Or.inl hj)]; exact e)
      omega
    · exact h
  have hle : S.length ≤ (S ++ N).length := by rw [List.length_append]; omega
  have hA := aA_grow (sz := s.heap.size) hle (fun i hi => ha i (Or.inl hi)) hge
  refine ⟨aCx_grow hX hle hC ha hA hK ?_ h2, hA, ⟨h1, va_S_iff (fun q => (hA q).symm) hS⟩, aLs_move ha hlv hl, aMap_move ha hst⟩
  intro i t n0 hi
  by_cases hlt : i < S.length
  · rw [List.getElem?_append_left hlt] at hi
    obtain ⟨t0, ht⟩ := hC.2.2.1 i t n0 hi
    exact ⟨t0, by rw [hc i hlt]; exact hT0 _ _ ht⟩
  · rw [List.getElem?_append_right (by omega)] at hi
    obtain ⟨t0, ht⟩ := hT _ t n0 hi
    rw [show S.length + (i - S.length) = i by omega] at ht
    exact ⟨t0, ht⟩
end AS
