/-! new int[n][k]: the step where a frame stands, and aMna -/
theorem mOver {args : Array Value} {s : State} (h : (Cond.arrayOver (.array .int)).before args s = true) : ∃ (cI cO : ClassId) (k : Class), s.vm.findClass "[I" = some cI ∧ s.vm.classes[cO]? = some k ∧ k.kind = .array cI (.array .int) ∧ s.vm.findClass "[[I" = some cO := by
  have h : (Cond.arrayOver (.array .int)).holds args s none s [] = true := h
  simp only [Cond.holds, Cond.value, beq_iff_eq] at h
  have e1 : (FieldType.array .int).toString = "[I" := by decide
  rw [e1] at h
  cases hc : s.vm.findClass "[I" with
  | none => simp [hc] at h
  | some cI =>
    simp only [hc, Option.bind_some, Option.bind_eq_some_iff, Option.map_eq_some_iff] at h
    obtain ⟨cO, hi, k, hk, hb⟩ := h
    obtain ⟨hlt, hp, -⟩ := Array.findIdx?_eq_some_iff_getElem.mp hi
    have hkk : s.vm.classes[cO] = k := (Array.getElem?_eq_some_iff.mp hk).2
    rw [hkk] at hp
    cases hkind : k.kind with
    | array cc ty =>
      rw [hkind] at hb hp
      simp at hb hp
      exact ⟨cI, cO, k, rfl, hk, by rw [hkind, hp, hb.1], hb.2⟩
    | _ => rw [hkind] at hb; simp at hb
section MS
variable {p : Program} {l : Launch} {e : Env} {R : Room} {s : State} {m : MethodId} {args : Array Value} {below : List Frame} {meth : Method} {c : Code} {T : State} {locs : List Loc} {cells slots : Nat}
theorem mStep (X : Stand p l e R s m args below meth c T locs cells slots) (hexec : p.tables.exec = Jvm.exec) {own : String} {index : Nat} (hown : s.vm.findClass own = some m.cls) (hcl : (Cond.classLink own index "[[I").before args s = true) (hover : (Cond.arrayOver (.array .int)).before #[] s = true) (harr : (Cond.arrayClass .int).before args s = true)
    {g : JFrame} (hg : g.method = m) (hdg : decode c.code g.pc = .ok (.multianewarray index 2, 4)) {n k : Int32} {rest : List Value} (hst : g.stack = .int k :: .int n :: rest) (hn : ¬ n < 0) (hk : ¬ k < 0) (hn2 : n.toNatClampNeg ≤ 60) (hk2 : k.toNatClampNeg ≤ 1000)
    (hcells : cells + (1 + n.toNatClampNeg) ≤ R.cells) (hslots : slots + (n.toNatClampNeg + n.toNatClampNeg * k.toNatClampNeg) ≤ R.slots) :
    ∃ (vm₁ : Vm) (cO cI : ClassId), s.vm.findClass "[[I" = some cO ∧ s.vm.findClass "[I" = some cI ∧ (∃ kO, s.vm.classes[cO]? = some kO ∧ kO.kind = .array cI (.array .int)) ∧ (∃ kI cc, s.vm.classes[cI]? = some kI ∧ kI.kind = .array cc .int) ∧
      Stand p l e R s m args below meth c (mF (T.setVm vm₁) cO cI n.toNatClampNeg k.toNatClampNeg n.toNatClampNeg) locs (cells + 1 + n.toNatClampNeg) (slots + n.toNatClampNeg + n.toNatClampNeg * k.toNatClampNeg) ∧
      ∀ target, Steps p.tables e below ((mF (T.setVm vm₁) cO cI n.toNatClampNeg k.toNatClampNeg n.toNatClampNeg).setTop { g with pc := g.pc + 4, stack := .ref T.heap.size :: rest }) target → Steps p.tables e below (T.setTop g) target := by
  subst hg
  have hpl : e.platform.magicAccessors = ({} : Platform).magicAccessors := by rw [X.admits.platform]
  obtain ⟨cI, cO, kO, hcI, hkO, hkindO, hcO⟩ := mOver hover
  obtain ⟨cI', kI, cc, hcI', hkI, hkindI⟩ := Cond.arrayClass_spec harr
  have e1 : cI' = cI := Option.some.inj (hcI'.symm.trans hcI)
  subst e1
  obtain ⟨c0, hc0, hlink⟩ := Cond.classLink_spec hown hcl e.platform hpl
  cases Option.some.inj (hcO.symm.trans hc0)
  obtain ⟨hg₁, hwarm, hready⟩ := State.classEntry (e := e) X.warmed hlink
  generalize T.vm.noted g.method.cls index (.cls cO) = vm₁ at hg₁ hwarm hready
  obtain ⟨kO₁, hkO₁, eO⟩ := hwarm.alike.2.2 _ _ hkO
  obtain ⟨kI₁, hkI₁, eI⟩ := hwarm.alike.2.2 _ _ hkI
  have X₁ := X.noted hwarm
  have XF := mF_stand X₁ cO cI' n.toNatClampNeg k.toNatClampNeg n.toNatClampNeg
  obtain ⟨r1, r2⟩ := X.roomAbove hcells hslots
  refine ⟨vm₁, cO, cI', hcO, hcI, ⟨kO, hkO, hkindO⟩, ⟨kI, cc, hkI, hkindI⟩, XF, fun target hrest => ?_⟩
  have q1 : n.toNatClampNeg ≤ e.platform.arrayLengthLimit := by rw [Launch.admits_arrayLengthLimit X.admits]; omega
  have q2 : n.toNatClampNeg * 4 ≤ e.platform.maxHeapBytes := by rw [Launch.admits_maxHeapBytes X.admits]; omega
  have q3 : k.toNatClampNeg ≤ e.platform.arrayLengthLimit := by rw [Launch.admits_arrayLengthLimit X.admits]; omega
  have q4 : k.toNatClampNeg * 4 ≤ e.platform.maxHeapBytes := by rw [Launch.admits_maxHeapBytes X.admits]; omega
  jvm_step X.here [hexec, hdg]
  simp only [Op.multianewarray.sem, wp_bind', W.resolveClassAt_links (State.method?_setTop g X.here.top) hg₁]
  rw [W.popN, if_neg (by decide)]
  refine ⟨g, State.topJava?_setTop' (s := T.setVm vm₁) g X.here.top, [.int n, .int k], rest, rfl, hst, ?_⟩
  simp only [List.mapM_cons, List.mapM_nil, wp_bind', wp_pure']
  refine mOuter (cI := cI') (cc := cc) hkO₁ (by rw [eO]; exact hkindO) hkI₁ (by rw [eI]; exact hkindI) hn hk q1 q2 q3 q4 (by show T.heap.size + 1 + _ ≤ _; omega) (by show T.slotsUsed + _ + _ ≤ _; omega) (fun d' acts' => ?_)
  have eS : ((T.setTop g).setVm vm₁).setTop { g with stack := rest } = (T.setVm vm₁).setTop { g with stack := rest } := by
    show ((T.setVm vm₁).setTop g).setTop _ = _
    rw [State.setTop_setTop]
  rw [eS, mF_top]
  simp only [wp_bind', W.mark, W.pushRef, State.topJava?_setTop' _ XF.here.top, Option.some.injEq, exists_eq_left', State.setTop_setTop, State.heap_setTop]
  intro acts
  simp [jvm, XF.here.top]
  exact hrest
end MS
