/-! new int[n][k], from the machine's own words -/
/-- the outer row after i of its rows -/
def mG (h i : Nat) : Nat → Value := fun j => va_rf (if j < i then some (h + 1 + j) else none)
theorem mG_zero (h : Nat) : mG h 0 = fun _ => .null := by
  funext j
  simp [mG, va_rf]
theorem mG_succ (h i : Nat) : updV (mG h i) i (.ref (h + 1 + i)) = mG h (i + 1) := by
  funext j
  by_cases e : j = i
  · subst e
    simp [updV, mG, va_rf]
  · by_cases h : j < i
    · simp [updV, mG, e, h, Nat.lt_succ_of_lt h]
    · simp [updV, mG, e, h, show ¬ j < i + 1 by omega]
def mO (cO : ClassId) (N h i : Nat) : Cell := arrV cO N (mG h i)
def mR (cI : ClassId) (K : Nat) : Cell := arrV cI K (fun _ => .int 0)
theorem mO_size (cO : ClassId) (N h i : Nat) : (mO cO N h i).slots.size = N := by simp [mO, arrV]
theorem mR_size (cI : ClassId) (K : Nat) : (mR cI K).slots.size = K := by simp [mR, arrV]
theorem mO_set (cO : ClassId) (N h i : Nat) : (mO cO N h i).setSlot i (.ref (h + 1 + i)) = mO cO N h (i + 1) := by
  unfold mO
  rw [arrV_store, mG_succ]
/-- the store after the outer row and i rows -/
def mF (T : State) (cO cI : ClassId) (N K : Nat) : Nat → State
  | 0 => T.pushCell (mO cO N T.heap.size 0)
  | i + 1 => ((mF T cO cI N K i).pushCell (mR cI K)).setCell T.heap.size ((mO cO N T.heap.size i).setSlot i (.ref (T.heap.size + 1 + i)))
def mFacts (T : State) (cO cI : ClassId) (N K i : Nat) (F : State) : Prop :=
  F.heap.size = T.heap.size + 1 + i ∧ F.heap[T.heap.size]? = some (mO cO N T.heap.size i) ∧ F.vm = T.vm ∧ F.slotsUsed = T.slotsUsed + N + i * K ∧ (∀ a : Nat, a < T.heap.size → F.heap[a]? = T.heap[a]?) ∧ ∀ j : Nat, j < i → F.heap[T.heap.size + 1 + j]? = some (mR cI K)
theorem mF_facts (T : State) (cO cI : ClassId) (N K : Nat) (i : Nat) : mFacts T cO cI N K i (mF T cO cI N K i) := by
  induction i with
  | zero =>
    refine ⟨by simp [mF], by simp [mF], rfl, ?_, fun a ha => State.heap_pushCell_of_lt _ _ ha, fun j hj => absurd hj (Nat.not_lt_zero _)⟩
    show T.slotsUsed + (mO cO N T.heap.size 0).slots.size = _
    rw [mO_size]
    omega
  | succ i ih =>
    obtain ⟨h1, h2, h3, h4, h5, h6⟩ := ih
    have hp : ∀ a : Nat, a < (mF T cO cI N K i).heap.size → ((mF T cO cI N K i).pushCell (mR cI K)).heap[a]? = (mF T cO cI N K i).heap[a]? := fun a ha => State.heap_pushCell_of_lt _ _ ha
    refine ⟨?_, ?_, h3, ?_, fun a ha => ?_, fun j hj => ?_⟩
    · show (((mF T cO cI N K i).heap.push (mR cI K)).setIfInBounds _ _).size = _
      rw [Array.size_setIfInBounds, Array.size_push, h1]
      omega
    · rw [← mO_set]
      exact State.heap_setCell_self (by rw [hp _ (by omega)]; exact h2)
    · show (mF T cO cI N K i).slotsUsed + (mR cI K).slots.size = _
      rw [h4, mR_size, Nat.succ_mul]
      omega
    · show (((mF T cO cI N K i).pushCell (mR cI K)).setCell T.heap.size _).heap[a]? = _
      rw [State.heap_setCell_other (show T.heap.size ≠ a by omega), hp a (by omega)]
      exact h5 a ha
    · show (((mF T cO cI N K i).pushCell (mR cI K)).setCell T.heap.size _).heap[T.heap.size + 1 + j]? = _
      rw [State.heap_setCell_other (show T.heap.size ≠ T.heap.size + 1 + j by omega)]
      by_cases e : j < i
      · rw [hp _ (by omega)]
        exact h6 j e
      · have : T.heap.size + 1 + j = (mF T cO cI N K i).heap.size := by omega
        rw [this]
        exact State.heap_pushCell_size _ _
theorem mF_top (T : State) (g : JFrame) (cO cI : ClassId) (N K : Nat) (i : Nat) : mF (T.setTop g) cO cI N K i = (mF T cO cI N K i).setTop g := by
  induction i with
  | zero => rfl
  | succ i ih =>
    show ((mF (T.setTop g) cO cI N K i).pushCell _).setCell _ _ = _
    rw [ih]
    rfl
theorem mF_stand {p : Program} {l : Launch} {e : Env} {R : Room} {s : State} {m : MethodId} {args : Array Value} {below : List Frame} {meth : Method} {c : Code} {T : State} {locs : List Loc} {cells slots : Nat} (X : Stand p l e R s m args below meth c T locs cells slots) (cO cI : ClassId) (N K : Nat) (i : Nat) :
    Stand p l e R s m args below meth c (mF T cO cI N K i) locs (cells + 1 + i) (slots + N + i * K) := by
  induction i with
  | zero =>
    have h := X.pushed (mO cO N T.heap.size 0)
    rw [mO_size] at h
    rw [Nat.zero_mul]
    exact h
  | succ i ih =>
    obtain ⟨h1, h2, -⟩ := mF_facts T cO cI N K i
    have hlt : T.heap.size < (mF T cO cI N K i).heap.size := by omega
    have h := (ih.pushed (mR cI K)).stored (a := T.heap.size) (cell := mO cO N T.heap.size i) (by rw [State.heap_pushCell_of_lt (h := hlt)]; exact h2) i (.ref (T.heap.size + 1 + i))
    rw [mR_size] at h
    have h := h.dropFresh (fun x hx => by
      rw [List.mem_singleton] at hx
      rw [hx]
      exact X.heapGrown)
    have e1 : slots + N + (i + 1) * K = slots + N + i * K + K := by
      rw [Nat.succ_mul]
      omega
    rw [e1]
    exact h
