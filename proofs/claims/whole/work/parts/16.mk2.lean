/-! SOUNDNESS of the making machine: new cells -/
/-- behind a step that makes cells -/
def aKM (p : Program) (l : Launch) (e : Env) (R : Room) (s : State) (m : MethodId) (args : Array Value) (below : List Frame) (meth : Method) (c : Code) (cells slots : Nat) (Q : State → Prop) (X : aXt) (S : List aSh) (ad : Nat → Nat) (D : va_G) (M : aM) (S' : List aSh) (pc : Nat) (lv st : List Value) (σ : aSt) : Prop :=
  ∀ (ad' : Nat → Nat) (cA' : Nat → ClassId) (tys' : List (ClassId × FieldType)) (H1 : Heap) (locs1 : List Loc) (ls1 : Array Slot), (∀ a, a < S.length ∨ 1000 ≤ a → ad' a = ad a) → aCx X S' ad' cA' D tys' s.heap.size s → (∀ q, aA ad' S' s.heap.size q ↔ aA ad S s.heap.size q) → aWo S' ad' cA' D s σ H1 locs1 → aLs ad' ls1 (aML M) lv → W p l e R s m args below meth c H1 locs1 cells slots Q (F0 m pc ls1 (st.map (aV ad')))
/-- new int[n][k], stated here, shown at the end -/
def aMna (l : Launch) : Prop := ∀ {p : Program} {e : Env} {R : Room} {s : State} {m : MethodId} {args : Array Value} {below : List Frame} {meth : Method} {c : Code} {H H0 : Heap} {locs : List Loc} {cells slots : Nat} {Q : State → Prop} {cc : ByteArray} {pc index : Nat} {ls : Array Slot} {rest : List Value} {D : va_G} {A : Nat → Prop} {tys : List (ClassId × FieldType)} {ws : va_W} {own : String} {n k : Int32},
  p.tables.exec = Jvm.exec → c.code = cc → s.vm.findClass own = some m.cls → (Cond.classLink own index "[[I").before args s = true → aAO s → (Cond.arrayClass .int).before args s = true → va_K D vwCl tys s → va_P D vwCl ws H → va_D A ws → va_S A H0 H locs → (∀ q, H0.size ≤ q → A q) → ¬ n < 0 → ¬ k < 0 → n.toNatClampNeg ≤ 60 → k.toNatClampNeg ≤ 1000 →
  cells + (1 + n.toNatClampNeg) ≤ R.cells → slots + (n.toNatClampNeg + n.toNatClampNeg * k.toNatClampNeg) ≤ R.slots → decode cc pc = .ok (.multianewarray index 2, 4) →
  (∀ (q : Nat) (cO cI : ClassId) (H1 : Heap), va_K D vwCl (tys ++ [(cO, .array .int), (cI, .int)]) s → va_P D vwCl (ws ++ ((q, .inl (cO, n.toNatClampNeg, .inr (.inr (.inr (.inr (fun i => if i < n.toNatClampNeg then some (q + 1 + i) else none)))))) :: (List.range n.toNatClampNeg).map (fun i => (q + 1 + i, .inl (cI, k.toNatClampNeg, .inl (fun _ => 0)))))) H1 →
    va_D A (ws ++ ((q, .inl (cO, n.toNatClampNeg, .inr (.inr (.inr (.inr (fun i => if i < n.toNatClampNeg then some (q + 1 + i) else none)))))) :: (List.range n.toNatClampNeg).map (fun i => (q + 1 + i, .inl (cI, k.toNatClampNeg, .inl (fun _ => 0)))))) → va_S A H0 H1 locs →
    W p l e R s m args below meth c H1 locs (cells + 1 + n.toNatClampNeg) (slots + n.toNatClampNeg + n.toNatClampNeg * k.toNatClampNeg) Q (F0 m (pc + 4) ls (.ref q :: rest))) →
  W p l e R s m args below meth c H locs cells slots Q (F0 m pc ls (.int k :: .int n :: rest))
section AS
variable {p : Program} {l : Launch} {e : Env} {R : Room} {s : State} {m : MethodId} {args : Array Value} {below : List Frame} {meth : Method} {c : Code} {H : Heap} {locs : List Loc} {cells slots : Nat} {Q : State → Prop}
variable {X : aXt} {S : List aSh} {ad : Nat → Nat} {cA : Nat → ClassId} {D : va_G} {tys : List (ClassId × FieldType)} {pc : Nat} {lv st : List Value} {σ : aSt} {ls : Array Slot} {M : aMk}
theorem aK_new {i ci : Nat} {w : Nat × Nat × Nat} (hF : aFx M.1 p s m c args) (hmk : M.2.1.all (aNC (aOwn M.1)) = true) (hX : ∀ a q, X a = some q → 1000 ≤ a) (hC : aCx X S ad cA D tys s.heap.size s) (hfr : aFrA lv st σ S = true) (hf : aFd M.2.1 i = some (ci, w)) (hcells : cells + 1 ≤ R.cells) (hslots : slots + aNf ci ≤ R.slots) (hd : decode (aBy M.1) pc = .ok (.new i, 3)) (hW : aWo S ad cA D s σ H locs) (hl : aLs ad ls (aML M.1) lv)
    (kk : aKM p l e R s m args below meth c (cells + 1) (slots + aNf ci) Q X S ad D M.1 (S ++ [.inl ci]) (pc + 3) lv (.ref S.length :: st) (aNw σ S.length (aDf ci))) : W p l e R s m args below meth c H locs cells slots Q (F0 m pc ls (st.map (aV ad))) := by
  obtain ⟨hx, hb, hml, hown, hts⟩ := hF
  obtain ⟨hP, hS⟩ := hW
  have h1 := List.all_eq_true.mp hmk _ (aFd_mem hf)
  unfold aNC at h1
  split at h1
  · rename_i r hr
    simp only at hr
    obtain ⟨C, T, N⟩ := r
    simp only [Bool.and_eq_true] at h1
    obtain ⟨w1, w2, w3⟩ := h1
    have hN := aNf_of hr
    rw [hN] at hslots kk
    obtain ⟨ty0, hty, hnm⟩ := aNmX hr
    simp only [aFrA, Bool.and_eq_true] at hfr
    obtain ⟨hlv, hst, hfs, hsz⟩ := hfr
    have hsz := Nat.blt_eq.mp hsz
    refine va_new (fs := (List.range N).map (aDf ci)) hx hb hts (aUws_in hr) ty0 hty hown (hts _ (aWd_mem w1)) (hts _ (aWd_mem w2)) (hts _ (aWd_mem w3)) hC.2.1 hP (aW_D hC.2.2.2.1) hS (fun q hq => Or.inr hq) hr (fun j hj => ?_) hcells hslots hd (fun q H1 hP1 hD1 hS1 => ?_)
    · have h2 := (aDf_ok hr j hj).1
      rw [hty j hj, Option.map_some] at h2
      rw [Option.some.inj h2]
      simp [vp_V, hj]
    · have ha : ∀ a, a < S.length ∨ 1000 ≤ a → (fun a => if a = S.length then q else ad a) a = ad a := by
        intro a h
        have : a ≠ S.length := by omega
        simp only [this, if_false]
      obtain ⟨g1, g2, g3, g4, g5⟩ := aK_grow (N := [.inl ci]) (ad' := fun a => if a = S.length then q else ad a) (cA' := cA) (σ' := aNw σ S.length (aDf ci)) (tys' := tys) hX hC hlv hst hfs rfl ha (fun _ _ => rfl) (fun i hi => by
          funext j
          have : i ≠ S.length := by omega
          simp only [aNw, this, if_false]) (fun j sh hj => by
          have h0 : j < 1 := (List.getElem?_eq_some_iff.mp hj).1
          have h0 : j = 0 := by omega
          subst h0
          cases hj
          show some _ = some _
          rw [aE_obj, hN]
          refine congrArg some (Prod.ext (by simp) ?_)
          refine congrArg (fun z => (Sum.inr (ci, z) : va_E)) (List.map_congr_left (fun k hk => ?_))
          have hk := List.mem_range.mp hk
          simp only [aNw, Nat.add_zero, if_true]
          exact (aV_nr (aDf_ok hr k hk).2).symm) hP1 hD1 hS1 hl hC.2.1 (fun _ _ h => h) (fun j t n hj => by
          have h0 : j < 1 := (List.getElem?_eq_some_iff.mp hj).1
          have h0 : j = 0 := by omega
          subst h0
          cases hj)
      have h3 := kk _ cA tys H1 locs ls ha g1 g2 g3 g4
      rw [List.map_cons, g5] at h3
      simp only [aV, if_true] at h3
      exact h3
  · cases h1
def aTy (t : ArrayType) : FieldType := newarray.typeOf t
def aA0 (tc n : Nat) : vp_A := match tc with
  | 3 => (n, .inr (.inl (fun _ => 0)))
  | _ => (n, .inl (fun _ => 0))
theorem aTc_ok {t : ArrayType} {tc : Nat} (h : aTc t = some tc) : Cond.arrayClass (newarray.typeOf t) ∈ aTB ∧ aFt tc = newarray.typeOf t ∧ componentBytes (newarray.typeOf t) ≤ 8 ∧ (∀ (cA : ClassId) (n : Nat), vp_cell cA (aA0 tc n) = arrV cA n (fun _ => defaultValue (newarray.typeOf t))) ∧ ∀ (ad : Nat → Nat) (c : ClassId) (n : Nat), aE ad c (fun _ => aZr tc) (.inr (tc, n)) = .inl (c, aA0 tc n) := by
  cases t <;> cases h
  · exact ⟨aWd_mem aWdA.2.2.1, rfl, by decide, fun _ _ => rfl, fun _ _ _ => rfl⟩
  · exact ⟨aWd_mem aWdA.2.1, rfl, by decide, fun _ _ => rfl, fun _ _ _ => rfl⟩
  · exact ⟨aWd_mem aWdA.1, rfl, by decide, fun _ _ => rfl, fun _ _ _ => rfl⟩
  · exact ⟨aWd_mem aWdA.2.2.2, rfl, by decide, fun _ _ => rfl, fun _ _ _ => rfl⟩
theorem aK_newa {t : ArrayType} {tc : Nat} {n : Int32} (hF : aFx M.1 p s m c args) (hX : ∀ a q, X a = some q → 1000 ≤ a) (hC : aCx X S ad cA D tys s.heap.size s) (hfr : aFrA lv (.int n :: st) σ S = true) (htc : aTc t = some tc) (hn : ¬ n < 0) (hn2 : n.toNatClampNeg ≤ 10000) (hcells : cells + 1 ≤ R.cells) (hslots : slots + n.toNatClampNeg ≤ R.slots) (hd : decode (aBy M.1) pc = .ok (.newarray t, 2)) (hW : aWo S ad cA D s σ H locs) (hl : aLs ad ls (aML M.1) lv)
    (kk : aKM p l e R s m args below meth c (cells + 1) (slots + n.toNatClampNeg) Q X S ad D M.1 (S ++ [.inr (tc, n.toNatClampNeg)]) (pc + 2) lv (.ref S.length :: st) (aNw σ S.length (fun _ => aZr tc))) : W p l e R s m args below meth c H locs cells slots Q (F0 m pc ls ((.int n :: st).map (aV ad))) := by
  obtain ⟨hx, hb, hml, hown, hts⟩ := hF
  obtain ⟨hP, hS⟩ := hW
  obtain ⟨k1, k2, k3, k4, k5⟩ := aTc_ok htc
  simp only [aFrA, Bool.and_eq_true] at hfr
  obtain ⟨hlv, hst, hfs, hsz⟩ := hfr
  have hsz := Nat.blt_eq.mp hsz
  have hst : st.all (aFr S.length) = true := by
    rw [List.all_cons, Bool.and_eq_true] at hst
    exact hst.2
  refine va_newa (a0 := aA0 tc n.toNatClampNeg) hx hb (hts _ k1) rfl hC.2.1 hP (aW_D hC.2.2.2.1) hS (fun q hq => Or.inr hq) (fun z => k4 z _) hn rfl ?_ hcells hslots hd (fun q cN H1 hK1 hP1 hD1 hS1 => ?_)
  · calc n.toNatClampNeg * componentBytes (newarray.typeOf t) ≤ 10000 * 8 := Nat.mul_le_mul hn2 k3
      _ ≤ 536870912 := by decide
  · have ha : ∀ a, a < S.length ∨ 1000 ≤ a → (fun a => if a = S.length then q else ad a) a = ad a := by
      intro a h
      have : a ≠ S.length := by omega
      simp only [this, if_false]
    obtain ⟨g1, g2, g3, g4, g5⟩ := aK_grow (N := [.inr (tc, n.toNatClampNeg)]) (ad' := fun a => if a = S.length then q else ad a) (cA' := fun a => if a = S.length then cN else cA a) (σ' := aNw σ S.length (fun _ => aZr tc)) (tys' := tys ++ [(cN, newarray.typeOf t)]) hX hC hlv hst hfs rfl ha (fun i hi => by
        have : i ≠ S.length := by omega
        simp only [this, if_false]) (fun i hi => by
        funext j
        have : i ≠ S.length := by omega
        simp only [aNw, this, if_false]) (fun j sh hj => by
        have h0 : j < 1 := (List.getElem?_eq_some_iff.mp hj).1
        have h0 : j = 0 := by omega
        subst h0
        cases hj
        show some _ = some _
        refine congrArg some (Prod.ext (by simp) ?_)
        have e : aNw σ S.length (fun _ => aZr tc) (S.length + 0) = fun _ => aZr tc := by
          funext j
          simp [aNw]
        rw [e, k5]
        simp) hP1 hD1 hS1 hl hK1 (fun k q h => by
        rw [List.getElem?_append_left (List.getElem?_eq_some_iff.mp h).1]
        exact h) (fun j t9 n9 hj => by
        have h0 : j < 1 := (List.getElem?_eq_some_iff.mp hj).1
        have h0 : j = 0 := by omega
        subst h0
        cases hj
        refine ⟨tys.length, ?_⟩
        rw [List.getElem?_append_right (Nat.le_refl _), Nat.sub_self, k2]
        simp)
    have h3 := kk _ _ _ H1 locs ls ha g1 g2 g3 g4
    rw [List.map_cons, g5] at h3
    simp only [aV, if_true] at h3
    exact h3
end AS
