/-! new int[n][k]: the machine's step -/
section MN
variable {E : CtlPost} {e : Env} {d : Bool} {acts : List Action} {s : State}
theorem mNew {c comp : ClassId} {k : Class} {t : FieldType} {n : Nat} {v : Value} (hk : s.vm.classes[c]? = some k) (hkind : k.kind = .array comp t) (hlim : n ≤ e.platform.arrayLengthLimit) (hheap : n * componentBytes t ≤ e.platform.maxHeapBytes) (hfit : fits t v = true) (hdef : v.isDefault = true)
    (h1 : s.heap.size < e.platform.maxCells) (h2 : s.slotsUsed + n ≤ e.platform.maxSlots) {Q : Addr → Pre} (hq : Q s.heap.size d acts (s.pushCell (arrV c n (fun _ => v)))) : wp (Jvm.newArray c n v) Q E e d acts s := by
  rw [← arrV_new] at hq
  have hall : ((Array.replicate n v).all (·.isDefault)) = true := by
    rw [Array.all_replicate]
    split <;> simp [hdef]
  have hact : allocActs (Array.replicate n v) s.heap.size acts = acts := by
    unfold allocActs
    rw [if_pos hall]
  have hsl : ∀ (i : Nat) (u : Value), (Array.replicate n v)[i]? = some u → s.fitsSlot c .none i u = true := by
    intro i u hu
    rw [Array.getElem?_replicate] at hu
    split at hu
    · cases hu
      simp [State.fitsSlot, State.slotType?, hk, hkind, hfit]
    · cases hu
  have n1 : ¬ n > e.platform.arrayLengthLimit := by omega
  have n2 : ¬ n * componentBytes t > e.platform.maxHeapBytes := by omega
  simp only [Jvm.newArray, Jvm.arrayFits, wp_bind', W.ask, W.ite, n1, if_false, wp_pure', W.theClass, hk, hkind, n2, W.alloc, W.stop, Option.some.injEq, exists_eq_left', Array.size_replicate, hact]
  rw [if_neg (by omega)]
  exact ⟨h1, h2, hsl, hq⟩
theorem mInner {cI cc : ClassId} {k : Class} {n : Int32} (hk : s.vm.classes[cI]? = some k) (hkind : k.kind = .array cc .int) (hn : ¬ n < 0) (hlim : n.toNatClampNeg ≤ e.platform.arrayLengthLimit) (hheap : n.toNatClampNeg * 4 ≤ e.platform.maxHeapBytes)
    (h1 : s.heap.size < e.platform.maxCells) (h2 : s.slotsUsed + n.toNatClampNeg ≤ e.platform.maxSlots) {Q : Addr → Pre} (hq : Q s.heap.size d acts (s.pushCell (mR cI n.toNatClampNeg))) : wp (Op.multianewarray.make cI [n]) Q E e d acts s := by
  rw [Op.multianewarray.make]
  simp only [wp_bind', W.ite, hn, if_false, wp_pure', W.theClass, hk, hkind, Option.some.injEq, exists_eq_left']
  exact mNew hk hkind hlim hheap rfl rfl h1 h2 hq
theorem mOuter {cO cI cc : ClassId} {k k2 : Class} {n j : Int32} (hk : s.vm.classes[cO]? = some k) (hkind : k.kind = .array cI (.array .int)) (hk2 : s.vm.classes[cI]? = some k2) (hkind2 : k2.kind = .array cc .int) (hn : ¬ n < 0) (hj : ¬ j < 0)
    (hlim : n.toNatClampNeg ≤ e.platform.arrayLengthLimit) (hheap : n.toNatClampNeg * 4 ≤ e.platform.maxHeapBytes) (hlim2 : j.toNatClampNeg ≤ e.platform.arrayLengthLimit) (hheap2 : j.toNatClampNeg * 4 ≤ e.platform.maxHeapBytes)
    (h1 : s.heap.size + 1 + n.toNatClampNeg ≤ e.platform.maxCells) (h2 : s.slotsUsed + n.toNatClampNeg + n.toNatClampNeg * j.toNatClampNeg ≤ e.platform.maxSlots)
    {Q : Addr → Pre} (hq : ∀ d' acts', Q s.heap.size d' acts' (mF s cO cI n.toNatClampNeg j.toNatClampNeg n.toNatClampNeg)) : wp (Op.multianewarray.make cO [n, j]) Q E e d acts s := by
  generalize hN : n.toNatClampNeg = N at *
  generalize hK : j.toNatClampNeg = K at *
  have hnone : ([j].find? (· < 0)) = none := by simp [hj]
  have hNK : 0 ≤ N * K := Nat.zero_le _
  rw [Op.multianewarray.make]
  simp only [wp_bind', W.ite, hn, if_false, wp_pure', W.theClass, hk, hkind, Option.some.injEq, exists_eq_left', hN]
  refine mNew hk hkind hlim hheap rfl rfl (by omega) (by omega) ?_
  simp only [hnone]
  rw [ite_self, wp_bind', Std.Legacy.Range.forIn_eq_forIn_range']
  rw [show ([:N] : Std.Legacy.Range).size = N by simp [Std.Legacy.Range.size]]
  show wp (forIn (List.range' 0 N 1) PUnit.unit _) _ E e d acts _
  refine wp_forIn_inv (fun r t => ∃ i : Nat, r.length + i = N ∧ r = List.range' i r.length ∧ t = mF s cO cI N K i) _ _ ⟨0, by rw [List.length_range']; rfl, by rw [List.length_range'], ?_⟩ ?_ ?_
  · show _ = s.pushCell (mO cO N s.heap.size 0)
    unfold mO
    rw [mG_zero]
  · rintro x r t d' acts' Q' ⟨i, hl, hr, rfl⟩ hnext
    rw [List.length_cons, List.range'_succ] at hr
    obtain ⟨rfl, hr⟩ := List.cons.inj hr
    rw [List.length_cons] at hl
    obtain ⟨f1, f2, f3, f4, -, -⟩ := mF_facts s cO cI N K x
    have hmul : x * K + K ≤ N * K := by
      have := Nat.mul_le_mul_right K (show x + 1 ≤ N by omega)
      rw [Nat.succ_mul] at this
      exact this
    simp only [wp_bind']
    refine mInner (by rw [f3]; exact hk2) hkind2 hj (by rw [hK]; exact hlim2) (by rw [hK]; exact hheap2) (by rw [f1]; omega) (by rw [f4, hK]; omega) ?_
    have hlt : s.heap.size < (mF s cO cI N K x).heap.size := by rw [f1]; omega
    simp only [wp_bind', W.writeLoc, wp_pure', hK]
    refine ⟨mO cO N s.heap.size x, by rw [State.heap_pushCell_of_lt (h := hlt)]; exact f2, by simp [mO, arrV], by rw [mO_size]; omega, ?_, hnext _ _ _ ⟨x + 1, by omega, hr, ?_⟩⟩
    · simp [State.fitsSlot, State.slotType?, f3, hk, hkind, mO, arrV, fits]
    · rw [f1]
      rfl
  · rintro t d' acts' ⟨i, hl, -, rfl⟩
    rw [List.length_nil, Nat.zero_add] at hl
    subst hl
    simp only [wp_pure']
    exact hq _ _
end MN
