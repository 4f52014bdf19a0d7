/-! THE WORLD of the abstract machine in the heap; locals; inversions of the machine's steps -/
def aNf (ci : Nat) : Nat := match vwCl[ci]? with
  | some q => q.2.2
  | none => 0
def aRf (ad : Nat → Nat) (v : Value) : Option Nat := match v with
  | .ref a => some (ad a)
  | _ => none
def aE (ad : Nat → Nat) (c : ClassId) (f : Nat → Value) (sh : aSh) : va_E := match sh with
  | .inl ci => .inr (ci, (List.range (aNf ci)).map (fun k => aV ad (f k)))
  | .inr (t, n) => .inl (c, n, match t with
    | 3 => .inr (.inl (fun j => aJ (f j)))
    | 4 => .inr (.inr (.inr (.inr (fun j => aRf ad (f j)))))
    | _ => .inl (fun j => aI (f j)))
def aW (ad : Nat → Nat) (cA : Nat → ClassId) (S : List aSh) (σ : aSt) : va_W := S.mapIdx (fun i sh => (ad i, aE ad (cA i) (σ i) sh))
theorem aW_at {ad : Nat → Nat} {cA : Nat → ClassId} {S : List aSh} {σ : aSt} {a : Nat} {sh : aSh} (h : S[a]? = some sh) : (aW ad cA S σ)[a]? = some (ad a, aE ad (cA a) (σ a) sh) := by
  simp [aW, List.getElem?_mapIdx, h]
theorem aW_of {ad : Nat → Nat} {cA : Nat → ClassId} {S : List aSh} {σ : aSt} {k : Nat} {q : Nat × va_E} (h : (aW ad cA S σ)[k]? = some q) : k < S.length ∧ q.1 = ad k := by
  simp only [aW, List.getElem?_mapIdx] at h
  cases e : S[k]? with
  | none => rw [e] at h; cases h
  | some sh =>
    rw [e] at h
    cases h
    exact ⟨(List.getElem?_eq_some_iff.mp e).1, rfl⟩
theorem aUp_self (σ : aSt) (a k : Nat) (v : Value) : (aUp σ a k v) a = fun j => if j = k then v else σ a j := by
  funext j
  simp [aUp]
theorem aUp_ne {σ : aSt} {a b k : Nat} {v : Value} (h : b ≠ a) : (aUp σ a k v) b = σ b := by
  funext j
  simp [aUp, h]
theorem aW_up {ad : Nat → Nat} {cA : Nat → ClassId} {S : List aSh} {σ : aSt} {a k : Nat} {v : Value} {sh : aSh} {e : va_E} (h : S[a]? = some sh) (he : aE ad (cA a) (fun j => if j = k then v else σ a j) sh = e) : (aW ad cA S σ).set a (ad a, e) = aW ad cA S (aUp σ a k v) := by
  apply List.ext_getElem?
  intro i
  rw [List.getElem?_set]
  by_cases hi : a = i
  · subst hi
    have hl : a < (aW ad cA S σ).length := by
      rw [aW, List.length_mapIdx]
      exact (List.getElem?_eq_some_iff.mp h).1
    rw [if_pos rfl, if_pos hl, aW_at h, aUp_self, he]
  · rw [if_neg hi]
    simp only [aW, List.getElem?_mapIdx]
    rw [aUp_ne (fun q => hi q.symm)]
/-- the addresses of the world, and all that come -/
def aA (ad : Nat → Nat) (S : List aSh) (sz : Nat) : Nat → Prop := fun q => (∃ i, i < S.length ∧ ad i = q) ∨ sz ≤ q
def aInj (ad : Nat → Nat) (S : List aSh) : Prop := ∀ i j, i < S.length → j < S.length → ad i = ad j → i = j
theorem aW_D {ad : Nat → Nat} {cA : Nat → ClassId} {S : List aSh} {σ : aSt} {sz : Nat} (h : aInj ad S) : va_D (aA ad S sz) (aW ad cA S σ) := by
  refine ⟨fun i j p q hp hq e => ?_, fun k q hk => ?_⟩
  · have h1 := aW_of hp
    have h2 := aW_of hq
    exact h i j h1.1 h2.1 (by rw [← h1.2, ← h2.2]; exact e)
  · have h1 := aW_of hk
    exact Or.inl ⟨k, h1.1, h1.2.symm⟩
def aFt (t : Nat) : FieldType := match t with
  | 0 => .int
  | 1 => .byte
  | 2 => .boolean
  | 3 => .long
  | _ => .array .int
theorem aFd_mem {α : Type} {l : List (Nat × α)} {i : Nat} {r : α} (h : aFd l i = some r) : (i, r) ∈ l := by
  induction l with
  | nil => cases h
  | cons q t ih =>
    unfold aFd at h
    split at h
    · rename_i hb
      have := Nat.eq_of_beq_eq_true hb
      cases h
      subst this
      exact List.mem_cons_self
    · exact List.mem_cons_of_mem _ (ih h)
/-- the String constants: class, pool index, text, the number that stands for it -/
def aStrK : List (String × Nat × String × Nat) := [("HalfDoneModel", 26, "y", 2000), ("HalfDoneModel", 32, "vksdnpci", 2001), ("HalfDoneModel", 259, "vrd", 2002), ("HalfDoneModel", 254, "abcde", 2003), ("HalfDoneModel", 277, "abcdek", 2004)]
def aStrOK (c : aCl) : Bool := c.2.2.2.all (fun q => match q.2.1 with
  | .ref a => match Nat.ble 2000 a with
    | true => aStrK.any (fun k => decide (k.1 = c.1) && (Nat.beq k.2.1 q.1 && Nat.beq k.2.2.2 a))
    | false => true
  | _ => true)
def aStrS (ad : Nat → Nat) (U : State) : Prop := ∀ q ∈ aStrK, vk_R q.1 q.2.1 q.2.2.1 (ad q.2.2.2) U
theorem aStr_in {c : aCl} {i a w : Nat} {ad : Nat → Nat} {U : State} (ho : aStrOK c = true) (h : aFd c.2.2.2 i = some (.ref a, w)) (ha : Nat.ble 2000 a = true) (hR : aStrS ad U) : ∃ tx, vk_R c.1 i tx (ad a) U := by
  have h1 := List.all_eq_true.mp ho _ (aFd_mem h)
  simp only [ha] at h1
  obtain ⟨k, hk, hq⟩ := List.any_eq_true.mp h1
  simp only [Bool.and_eq_true, decide_eq_true_eq] at hq
  obtain ⟨e1, e2, e3⟩ := hq
  have e2 := Nat.eq_of_beq_eq_true e2
  have e3 := Nat.eq_of_beq_eq_true e3
  have := hR k hk
  rw [e1, e2, e3] at this
  exact ⟨_, this⟩
/-- the texts' contents, two statics of the JDK's that reading them asks for -/
def aSL : List Nat := [1, 8, 3, 5, 6]
def aSB : List (List Int32) := [[121], [118, 107, 115, 100, 110, 112, 99, 105], [118, 114, 100], [97, 98, 99, 100, 101], [97, 98, 99, 100, 101, 107]]
def aEx (ad : Nat → Nat) (A : Nat → Prop) (U : State) : Prop := vk_S 5 aSL aSB (fun i => ad (2000 + i)) (fun i => ad (3000 + i)) A U U.heap ∧ va_Z "java/lang/String" "COMPACT_STRINGS" "Z" (.int 1) A U U.heap ∧ (va_Z "jdk/internal/util/Preconditions" "SIOOBE_FORMATTER" "Ljava/util/function/BiFunction;" .null A U U.heap ∨ va_Z "jdk/internal/util/Preconditions" "SIOOBE_FORMATTER" "Ljava/util/function/BiFunction;" (.ref (ad 3005)) A U U.heap)
theorem aEx.moved {ad : Nat → Nat} {A B : Nat → Prop} {u U : State} (h : aEx ad A u) (hvm : u.vm.Alike U.vm) (hq : ∀ a : Nat, a < u.heap.size → ¬ A a → U.heap[a]? = u.heap[a]?) (hAB : ∀ q, B q → A q) : aEx ad B U := by
  obtain ⟨h1, h2, h3⟩ := h
  exact ⟨((vk_S.moved hvm h1).kept hq).narrow hAB, ((va_Z.moved hvm h2).kept hq).narrow hAB, h3.imp (fun h => ((va_Z.moved hvm h).kept hq).narrow hAB) (fun h => ((va_Z.moved hvm h).kept hq).narrow hAB)⟩
/-- what a start knows of its surroundings -/
def aCx (X : aXt) (S : List aSh) (ad : Nat → Nat) (cA : Nat → ClassId) (D : va_G) (tys : List (ClassId × FieldType)) (sz : Nat) (U : State) : Prop :=
  U.heap.size = sz ∧ va_K D vwCl tys U ∧ (∀ i t n : Nat, S[i]? = some (.inr (t, n)) → ∃ t0 : Nat, tys[t0]? = some (cA i, aFt t)) ∧ aInj ad S ∧ (∀ (a n : Nat) (f : Nat → Int32), S[a]? = none → X a = some (n, f) → va_T .int (ad a) n (fun j => .int (f j)) (aA ad S sz) U U.heap) ∧ (∀ q ∈ aStat, va_Z q.2.1 q.2.2.1 q.2.2.2 (.ref (ad q.1)) (aA ad S sz) U U.heap) ∧ (∀ w ∈ aNest, va_Nw w U) ∧ aStrS ad U ∧ aEx ad (aA ad S sz) U
def aFx (M : aM) (p : Program) (s : State) (m : MethodId) (c : Code) (args : Array Value) : Prop :=
  p.tables.exec = Jvm.exec ∧ c.code = aBy M ∧ c.maxLocals = aML M ∧ s.vm.findClass (aOwn M) = some m.cls ∧ ∀ w ∈ aTB, w.before args s = true
def aWo (S : List aSh) (ad : Nat → Nat) (cA : Nat → ClassId) (D : va_G) (s : State) (σ : aSt) (H : Heap) (locs : List Loc) : Prop :=
  va_P D vwCl (aW ad cA S σ) H ∧ va_S (aA ad S s.heap.size) s.heap H locs
def aLs (ad : Nat → Nat) (ls : Array Slot) (n : Nat) (lv : List Value) : Prop :=
  ls.size = n ∧ lv_wf ls ∧ lv.length = n ∧ ∀ (i : Nat) (v : Value), lv[i]? = some v → v ≠ .null → ls[i]? = some (.val (aV ad v))
/-- the locals as the kit lists them -/
def aLl (ad : Nat → Nat) (lv : List Value) : List (Nat × Value) := lv.zipIdx.filterMap (fun q => if q.1 = .null then none else some (q.2, aV ad q.1))
theorem aLl_mem {ad : Nat → Nat} {lv : List Value} {i : Nat} {w : Value} : (i, w) ∈ aLl ad lv ↔ ∃ v, lv[i]? = some v ∧ v ≠ .null ∧ w = aV ad v := by
  simp only [aLl, List.mem_filterMap, List.mem_zipIdx_iff_getElem?]
  constructor
  · rintro ⟨⟨v, j⟩, hq, h⟩
    by_cases e : v = .null
    · simp [e] at h
    · simp [e] at h
      obtain ⟨rfl, rfl⟩ := h
      exact ⟨v, hq, e, rfl⟩
  · rintro ⟨v, h1, h2, rfl⟩
    exact ⟨(v, i), h1, by simp [h2]⟩
theorem aLs_has {ad : Nat → Nat} {ls : Array Slot} {n : Nat} {lv : List Value} (h : aLs ad ls n lv) : lv_has ls n (aLl ad lv) := by
  refine ⟨h.1, h.2.1, fun q hq => ?_⟩
  obtain ⟨i, w⟩ := q
  obtain ⟨v, h1, h2, rfl⟩ := aLl_mem.mp hq
  exact h.2.2.2 i v h1 h2
theorem aV_cat (ad : Nat → Nat) (v : Value) : (aV ad v).category = v.category := by cases v <;> rfl
theorem aLs_set1 {ad : Nat → Nat} {ls : Array Slot} {n i : Nat} {lv : List Value} {v : Value} (hl : lv.length = n) (hn : aNoL lv i = true)
    (h : lv_has ls n ((i, aV ad v) :: (aLl ad lv).filter (fun q => !(q.1 == i) && !(q.1 + 1 == i && q.2.category == 2)))) : aLs ad ls n (lv.set i v) := by
  refine ⟨h.1, h.2.1, by rw [List.length_set]; exact hl, fun j u hj hu => ?_⟩
  rw [List.getElem?_set] at hj
  by_cases e : i = j
  · subst e
    rw [if_pos rfl] at hj
    split at hj
    · cases hj
      exact h.2.2 (i, aV ad v) List.mem_cons_self
    · cases hj
  · rw [if_neg e] at hj
    refine h.2.2 (j, aV ad u) (List.mem_cons_of_mem _ (List.mem_filter.mpr ⟨aLl_mem.mpr ⟨u, hj, hu, rfl⟩, ?_⟩))
    have e1 : (j == i) = false := by simp; exact fun q => e q.symm
    by_cases e2 : j + 1 = i
    · subst e2
      simp only [aNoL, hj] at hn
      have : u.category = 1 := by simpa using hn
      simp [aV_cat, this]
    · simp [e1, e2]
theorem aLs_set2 {ad : Nat → Nat} {ls : Array Slot} {n i : Nat} {lv : List Value} {v : Value} (hl : lv.length = n) (hn : aNoL lv i = true)
    (h : lv_has ls n ((i, aV ad v) :: (aLl ad lv).filter (fun q => !(q.1 == i) && (!(q.1 == i + 1) && !(q.1 + 1 == i && q.2.category == 2))))) : aLs ad ls n ((lv.set i v).set (i + 1) .null) := by
  refine ⟨h.1, h.2.1, by rw [List.length_set, List.length_set]; exact hl, fun j u hj hu => ?_⟩
  rw [List.getElem?_set] at hj
  by_cases e3 : i + 1 = j
  · subst e3
    rw [if_pos rfl] at hj
    split at hj
    · cases hj; exact absurd rfl hu
    · cases hj
  rw [if_neg e3, List.getElem?_set] at hj
  by_cases e : i = j
  · subst e
    rw [if_pos rfl] at hj
    split at hj
    · cases hj
      exact h.2.2 (i, aV ad v) List.mem_cons_self
    · cases hj
  · rw [if_neg e] at hj
    refine h.2.2 (j, aV ad u) (List.mem_cons_of_mem _ (List.mem_filter.mpr ⟨aLl_mem.mpr ⟨u, hj, hu, rfl⟩, ?_⟩))
    have e1 : (j == i) = false := by simp; exact fun q => e q.symm
    have e4 : (j == i + 1) = false := by simp; exact fun q => e3 q.symm
    by_cases e2 : j + 1 = i
    · subst e2
      simp only [aNoL, hj] at hn
      have : u.category = 1 := by simpa using hn
      simp [aV_cat, this]
      omega
    · simp [e1, e2, e4]
/-! inversions -/
theorem aGo_inv {pc : Nat} {lv st : List Value} {σ : aSt} {z : aC} (h : aGo pc lv st σ = some (.inl z)) : z = (pc, lv, st, σ) := by
  cases h; rfl
theorem aJp_inv {pc : Nat} {off : Int} {lv st : List Value} {σ : aSt} {z : aC} (h : aJp pc off lv st σ = some (.inl z)) : ∃ t : Nat, (pc : Int) + off = (t : Int) ∧ z = (t, lv, st, σ) := by
  unfold aJp at h
  split at h
  · rename_i t ht
    exact ⟨t, ht, aGo_inv h⟩
  · cases h
theorem aPut1_inv {pc : Nat} {lv : List Value} {i : Nat} {v : Value} {st : List Value} {σ : aSt} {z : aC} (h : aPut1 pc lv i v st σ = some (.inl z)) : i < lv.length ∧ aNoL lv i = true ∧ z = (pc, lv.set i v, st, σ) := by
  unfold aPut1 at h
  split at h
  · rename_i hb
    rw [Bool.and_eq_true] at hb
    exact ⟨Nat.blt_eq.mp hb.1, hb.2, aGo_inv h⟩
  · cases h
theorem aPut2_inv {pc : Nat} {lv : List Value} {i : Nat} {v : Value} {st : List Value} {σ : aSt} {z : aC} (h : aPut2 pc lv i v st σ = some (.inl z)) : i + 1 < lv.length ∧ aNoL lv i = true ∧ z = (pc, (lv.set i v).set (i + 1) .null, st, σ) := by
  unfold aPut2 at h
  split at h
  · rename_i hb
    rw [Bool.and_eq_true] at hb
    exact ⟨Nat.blt_eq.mp hb.1, hb.2, aGo_inv h⟩
  · cases h
theorem aLdI_inv {pc : Nat} {lv : List Value} {i : Nat} {st : List Value} {σ : aSt} {z : aC} (h : aLdI pc lv i st σ = some (.inl z)) : ∃ x, lv[i]? = some (.int x) ∧ z = (pc, lv, .int x :: st, σ) := by
  unfold aLdI at h
  split at h
  · rename_i x hx
    exact ⟨x, hx, aGo_inv h⟩
  · cases h
theorem aLdL_inv {pc : Nat} {lv : List Value} {i : Nat} {st : List Value} {σ : aSt} {z : aC} (h : aLdL pc lv i st σ = some (.inl z)) : ∃ x, lv[i]? = some (.long x) ∧ z = (pc, lv, .long x :: st, σ) := by
  unfold aLdL at h
  split at h
  · rename_i x hx
    exact ⟨x, hx, aGo_inv h⟩
  · cases h
theorem aLdR_inv {pc : Nat} {lv : List Value} {i : Nat} {st : List Value} {σ : aSt} {z : aC} (h : aLdR pc lv i st σ = some (.inl z)) : ∃ x, lv[i]? = some (.ref x) ∧ z = (pc, lv, .ref x :: st, σ) := by
  unfold aLdR at h
  split at h
  · rename_i x hx
    exact ⟨x, hx, aGo_inv h⟩
  · cases h
theorem aStI_inv {pc : Nat} {lv : List Value} {i : Nat} {st : List Value} {σ : aSt} {z : aC} (h : aStI pc lv i st σ = some (.inl z)) : ∃ x r, st = .int x :: r ∧ i < lv.length ∧ aNoL lv i = true ∧ z = (pc, lv.set i (.int x), r, σ) := by
  unfold aStI at h
  split at h
  · rename_i x r
    exact ⟨x, r, rfl, aPut1_inv h⟩
  · cases h
theorem aStR_inv {pc : Nat} {lv : List Value} {i : Nat} {st : List Value} {σ : aSt} {z : aC} (h : aStR pc lv i st σ = some (.inl z)) : ∃ x r, st = .ref x :: r ∧ i < lv.length ∧ aNoL lv i = true ∧ z = (pc, lv.set i (.ref x), r, σ) := by
  unfold aStR at h
  split at h
  · rename_i x r
    exact ⟨x, r, rfl, aPut1_inv h⟩
  · cases h
theorem aStL_inv {pc : Nat} {lv : List Value} {i : Nat} {st : List Value} {σ : aSt} {z : aC} (h : aStL pc lv i st σ = some (.inl z)) : ∃ x r, st = .long x :: r ∧ i + 1 < lv.length ∧ aNoL lv i = true ∧ z = (pc, (lv.set i (.long x)).set (i + 1) .null, r, σ) := by
  unfold aStL at h
  split at h
  · rename_i x r
    exact ⟨x, r, rfl, aPut2_inv h⟩
  · cases h
theorem aII_inv {f : Int32 → Int32 → Value} {pc : Nat} {lv st : List Value} {σ : aSt} {z : aC} (h : aII f pc lv st σ = some (.inl z)) : ∃ x y r, st = .int y :: .int x :: r ∧ z = (pc + 1, lv, f x y :: r, σ) := by
  unfold aII at h
  split at h
  · rename_i y x r
    exact ⟨x, y, r, rfl, aGo_inv h⟩
  · cases h
theorem aLL_inv {f : Int64 → Int64 → Value} {pc : Nat} {lv st : List Value} {σ : aSt} {z : aC} (h : aLL f pc lv st σ = some (.inl z)) : ∃ x y r, st = .long y :: .long x :: r ∧ z = (pc + 1, lv, f x y :: r, σ) := by
  unfold aLL at h
  split at h
  · rename_i y x r
    exact ⟨x, y, r, rfl, aGo_inv h⟩
  · cases h
theorem aLI_inv {f : Int64 → Int32 → Value} {pc : Nat} {lv st : List Value} {σ : aSt} {z : aC} (h : aLI f pc lv st σ = some (.inl z)) : ∃ x y r, st = .int y :: .long x :: r ∧ z = (pc + 1, lv, f x y :: r, σ) := by
  unfold aLI at h
  split at h
  · rename_i y x r
    exact ⟨x, y, r, rfl, aGo_inv h⟩
  · cases h
theorem aI1_inv {f : Int32 → Value} {pc : Nat} {lv st : List Value} {σ : aSt} {z : aC} (h : aI1 f pc lv st σ = some (.inl z)) : ∃ x r, st = .int x :: r ∧ z = (pc + 1, lv, f x :: r, σ) := by
  unfold aI1 at h
  split at h
  · rename_i x r
    exact ⟨x, r, rfl, aGo_inv h⟩
  · cases h
theorem aL1_inv {f : Int64 → Value} {pc : Nat} {lv st : List Value} {σ : aSt} {z : aC} (h : aL1 f pc lv st σ = some (.inl z)) : ∃ x r, st = .long x :: r ∧ z = (pc + 1, lv, f x :: r, σ) := by
  unfold aL1 at h
  split at h
  · rename_i x r
    exact ⟨x, r, rfl, aGo_inv h⟩
  · cases h
theorem aIID_inv {f : Int32 → Int32 → Value} {pc : Nat} {lv st : List Value} {σ : aSt} {z : aC} (h : aIID f pc lv st σ = some (.inl z)) : ∃ x y r, st = .int y :: .int x :: r ∧ ¬ y = 0 ∧ z = (pc + 1, lv, f x y :: r, σ) := by
  unfold aIID at h
  split at h
  · rename_i y x r
    split at h
    · cases h
    · rename_i hn
      exact ⟨x, y, r, rfl, hn, aGo_inv h⟩
  · cases h
theorem aLLD_inv {f : Int64 → Int64 → Value} {pc : Nat} {lv st : List Value} {σ : aSt} {z : aC} (h : aLLD f pc lv st σ = some (.inl z)) : ∃ x y r, st = .long y :: .long x :: r ∧ ¬ y = 0 ∧ z = (pc + 1, lv, f x y :: r, σ) := by
  unfold aLLD at h
  split at h
  · rename_i y x r
    split at h
    · cases h
    · rename_i hn
      exact ⟨x, y, r, rfl, hn, aGo_inv h⟩
  · cases h
theorem aIf_inv {P : Int32 → Prop} {dec : ∀ x, Decidable (P x)} {pc : Nat} {off : Int} {lv st : List Value} {σ : aSt} {z : aC} (h : aIf P dec pc off lv st σ = some (.inl z)) : ∃ x r t, st = .int x :: r ∧ (pc : Int) + off = ((t : Nat) : Int) ∧ ((P x ∧ z = (t, lv, r, σ)) ∨ (¬ P x ∧ z = (pc + 3, lv, r, σ))) := by
  unfold aIf at h
  split at h
  · rename_i x r
    split at h
    · rename_i t ht
      refine ⟨x, r, t, rfl, ht, ?_⟩
      by_cases hp : P x
      · rw [if_pos hp] at h
        exact Or.inl ⟨hp, aGo_inv h⟩
      · rw [if_neg hp] at h
        exact Or.inr ⟨hp, aGo_inv h⟩
    · cases h
  · cases h
theorem aIc_inv {P : Int32 → Int32 → Prop} {dec : ∀ x y, Decidable (P x y)} {pc : Nat} {off : Int} {lv st : List Value} {σ : aSt} {z : aC} (h : aIc P dec pc off lv st σ = some (.inl z)) : ∃ x y r t, st = .int y :: .int x :: r ∧ (pc : Int) + off = ((t : Nat) : Int) ∧ ((P x y ∧ z = (t, lv, r, σ)) ∨ (¬ P x y ∧ z = (pc + 3, lv, r, σ))) := by
  unfold aIc at h
  split at h
  · rename_i y x r
    split at h
    · rename_i t ht
      refine ⟨x, y, r, t, rfl, ht, ?_⟩
      by_cases hp : P x y
      · rw [if_pos hp] at h
        exact Or.inl ⟨hp, aGo_inv h⟩
      · rw [if_neg hp] at h
        exact Or.inr ⟨hp, aGo_inv h⟩
    · cases h
  · cases h
