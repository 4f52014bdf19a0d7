/-! THE RULES' SOUNDNESS, 1: values, locals that aren't wanted any more -/
theorem bZ_val {v : bV} {z : Int} (h : bZ v = some z) : bVal v = .int (Int32.ofInt z) := by
  match v, h with
  | .inl _, h => cases h; rfl
  | .inr (.inr (.inr (.inr (.inr (.inl _))))), h => cases h; rfl
theorem bL_val {v : bV} {z : Int} (h : bL v = some z) : bVal v = .long (Int64.ofInt z) := by
  match v, h with
  | .inr (.inr (.inl _)), h => cases h; rfl
  | .inr (.inr (.inr (.inr (.inr (.inr _))))), h => cases h; rfl
theorem bRe_val {v : bV} (h : bRe v = true) : ∃ a, bVal v = .ref a := by
  match v, h with
  | .inr (.inl a), _ => exact ⟨a, rfl⟩
  | .inr (.inr (.inr (.inr (.inl (a, i))))), _ => exact ⟨_, rfl⟩
theorem bNm_val (v : bV) : bVal (bNm v) = bVal v := by
  match v with
  | .inl _ => rfl
  | .inr (.inl _) => rfl
  | .inr (.inr (.inl _)) => rfl
  | .inr (.inr (.inr (.inl _))) => rfl
  | .inr (.inr (.inr (.inr (.inl _)))) => rfl
  | .inr (.inr (.inr (.inr (.inr (.inl _))))) => rfl
  | .inr (.inr (.inr (.inr (.inr (.inr _))))) => rfl
theorem bNm_map (l : List bV) : (l.map bNm).map bVal = l.map bVal := by
  rw [List.map_map]
  exact List.map_congr_left (fun v _ => bNm_val v)
theorem bCt_val (v : bV) : ((bVal v).category == 1) = bCt v := by
  match v with
  | .inl _ => rfl
  | .inr (.inl _) => rfl
  | .inr (.inr (.inl _)) => rfl
  | .inr (.inr (.inr (.inl _))) => rfl
  | .inr (.inr (.inr (.inr (.inl _)))) => rfl
  | .inr (.inr (.inr (.inr (.inr (.inl _))))) => rfl
  | .inr (.inr (.inr (.inr (.inr (.inr _))))) => rfl
theorem bCt_cat {v : bV} (h : bCt v = true) : (bVal v).category = 1 := by
  have := bCt_val v
  rw [h] at this
  simpa using this
theorem bCt_cat2 {v : bV} (h : bCt v = false) : (bVal v).category = 2 := by
  match v, h with
  | .inr (.inr (.inl _)), _ => rfl
  | .inr (.inr (.inr (.inr (.inr (.inr _))))), _ => rfl
theorem bAt (lv : List bV) (i : Nat) : (lv.map bVal)[i]? = (lv[i]?).map bVal := List.getElem?_map ..
theorem bNoL_val (lv : List bV) : ∀ i, aNoL (lv.map bVal) i = bNoL lv i
  | 0 => rfl
  | i + 1 => by
    show (match (lv.map bVal)[i]? with
      | some v => v.category == 1
      | none => true) = (match lv[i]? with
      | some v => bCt v
      | none => true)
    rw [bAt]
    cases lv[i]? with
    | none => rfl
    | some v => exact bCt_val v
theorem bCat_val : ∀ st : List bV, aCat (st.map bVal) = bCat st
  | [] => rfl
  | v :: r => by
    show (bVal v).category + aCat (r.map bVal) = (match bCt v with
      | true => 1 + bCat r
      | false => 2 + bCat r)
    rw [bCat_val r]
    cases h : bCt v with
    | true => rw [bCt_cat h]
    | false => rw [bCt_cat2 h]
theorem bTk_val : ∀ (n : Nat) (acc st as r : List bV), bTk n acc st = some (as, r) → aTk n (acc.map bVal) (st.map bVal) = some (as.map bVal, r.map bVal)
  | 0, acc, st, as, r, h => by cases h; rfl
  | n + 1, acc, [], as, r, h => by cases h
  | n + 1, acc, v :: st, as, r, h => bTk_val n (v :: acc) st as r h
theorem bArg_val : ∀ as : List bV, aArg (as.map bVal) = (bArg as).map bVal
  | [] => rfl
  | v :: r => by
    show (match (bVal v).category == 2 with
      | true => bVal v :: .null :: aArg (r.map bVal)
      | false => bVal v :: aArg (r.map bVal)) = (match bL v with
      | some _ => v :: vn :: bArg r
      | none => v :: bArg r).map bVal
    rw [bArg_val r]
    cases h : bL v with
    | some z =>
      show _ = bVal v :: .null :: (bArg r).map bVal
      rw [bL_val h]
      rfl
    | none =>
      have hc : bCt v = true := by unfold bCt; rw [h]
      rw [bCt_cat hc]
      rfl
theorem bEnt_val (M : aM) (as : List bV) : aEnt M (as.map bVal) = (bEnt M as).map bVal := by
  unfold aEnt bEnt
  rw [bArg_val, List.map_append, List.length_map, List.map_replicate]
  rfl
theorem bSet_val (lv : List bV) (i : Nat) (v : bV) : (lv.map bVal).set i (bVal v) = (lv.set i v).map bVal := by
  rw [List.map_set]
/-! locals with holes -/
def aLe (lv lv' : List Value) : Prop := lv.length = lv'.length ∧ ∀ (i : Nat) (v : Value), lv[i]? = some v → lv'[i]? = some v ∨ (v = .null ∧ ∃ v', lv'[i]? = some v' ∧ v'.category = 1)
theorem aLe.rf (lv : List Value) : aLe lv lv := ⟨rfl, fun _ _ h => Or.inl h⟩
theorem aLe.at {lv lv' : List Value} (h : aLe lv lv') {i : Nat} {v : Value} (hi : lv[i]? = some v) (hv : v ≠ .null) : lv'[i]? = some v := (h.2 i v hi).resolve_right (fun q => hv q.1)
theorem aLe.set {lv lv' : List Value} (h : aLe lv lv') (i : Nat) (v : Value) : aLe (lv.set i v) (lv'.set i v) := by
  refine ⟨by rw [List.length_set, List.length_set]; exact h.1, fun j u hj => ?_⟩
  rw [List.getElem?_set] at hj ⊢
  by_cases e : i = j
  · subst e
    rw [if_pos rfl] at hj ⊢
    rw [← h.1]
    exact Or.inl hj
  · rw [if_neg e] at hj ⊢
    exact h.2 j u hj
theorem aLe.noL {lv lv' : List Value} (h : aLe lv lv') : ∀ i, aNoL lv i = true → aNoL lv' i = true
  | 0, _ => rfl
  | i + 1, hn => by
    have hn : (match lv[i]? with
      | some v => v.category == 1
      | none => true) = true := hn
    show (match lv'[i]? with
      | some v => v.category == 1
      | none => true) = true
    cases h1 : lv[i]? with
    | none =>
      have : lv'[i]? = none := by
        rw [List.getElem?_eq_none_iff] at h1 ⊢
        rw [← h.1]
        exact h1
      rw [this]
    | some v =>
      rw [h1] at hn
      rcases h.2 i v h1 with h2 | ⟨rfl, v', h2, h3⟩
      · rw [h2]; exact hn
      · rw [h2]
        show (v'.category == 1) = true
        rw [h3]
        rfl
def aWl (lv : List Value) (r : aR) : aR := match r with
  | .inl (pc, _, st, σ) => .inl (pc, lv, st, σ)
  | .inr (.inl x) => .inr (.inl x)
  | .inr (.inr (K, as, (pc, _, st, σ))) => .inr (.inr (K, as, (pc, lv, st, σ)))
/-- the instructions that look at locals -/
def aLoc (ins : Instr) : Bool := match ins with
  | .iload_n _ => true
  | .iload _ => true
  | .lload_n _ => true
  | .lload _ => true
  | .aload_n _ => true
  | .aload _ => true
  | .istore_n _ => true
  | .istore _ => true
  | .lstore_n _ => true
  | .lstore _ => true
  | .astore_n _ => true
  | .astore _ => true
  | .iinc _ _ => true
  | _ => false
theorem aGo_wl (pc : Nat) (lv lv' st : List Value) (σ : aSt) : aGo pc lv' st σ = (aGo pc lv st σ).map (aWl lv') := rfl
theorem aJp_wl (pc : Nat) (off : Int) (lv lv' st : List Value) (σ : aSt) : aJp pc off lv' st σ = (aJp pc off lv st σ).map (aWl lv') := by
  unfold aJp
  split <;> rfl
theorem aGd_wl (b : Bool) (o o' : Option aR) (lv' : List Value) (h : o' = o.map (aWl lv')) : aGd b o' = (aGd b o).map (aWl lv') := by
  cases b with
  | true => exact h
  | false => rfl
theorem aII_wl (f : Int32 → Int32 → Value) (pc : Nat) (lv lv' st : List Value) (σ : aSt) : aII f pc lv' st σ = (aII f pc lv st σ).map (aWl lv') := by
  unfold aII
  split <;> rfl
theorem aLL_wl (f : Int64 → Int64 → Value) (pc : Nat) (lv lv' st : List Value) (σ : aSt) : aLL f pc lv' st σ = (aLL f pc lv st σ).map (aWl lv') := by
  unfold aLL
  split <;> rfl
theorem aLI_wl (f : Int64 → Int32 → Value) (pc : Nat) (lv lv' st : List Value) (σ : aSt) : aLI f pc lv' st σ = (aLI f pc lv st σ).map (aWl lv') := by
  unfold aLI
  split <;> rfl
theorem aI1_wl (f : Int32 → Value) (pc : Nat) (lv lv' st : List Value) (σ : aSt) : aI1 f pc lv' st σ = (aI1 f pc lv st σ).map (aWl lv') := by
  unfold aI1
  split <;> rfl
theorem aL1_wl (f : Int64 → Value) (pc : Nat) (lv lv' st : List Value) (σ : aSt) : aL1 f pc lv' st σ = (aL1 f pc lv st σ).map (aWl lv') := by
  unfold aL1
  split <;> rfl
theorem aIID_wl (f : Int32 → Int32 → Value) (pc : Nat) (lv lv' st : List Value) (σ : aSt) : aIID f pc lv' st σ = (aIID f pc lv st σ).map (aWl lv') := by
  unfold aIID
  split
  · split <;> rfl
  · rfl
theorem aLLD_wl (f : Int64 → Int64 → Value) (pc : Nat) (lv lv' st : List Value) (σ : aSt) : aLLD f pc lv' st σ = (aLLD f pc lv st σ).map (aWl lv') := by
  unfold aLLD
  split
  · split <;> rfl
  · rfl
theorem aIf_wl (P : Int32 → Prop) (dec : ∀ x, Decidable (P x)) (pc : Nat) (off : Int) (lv lv' st : List Value) (σ : aSt) : aIf P dec pc off lv' st σ = (aIf P dec pc off lv st σ).map (aWl lv') := by
  unfold aIf
  split
  · split
    · split <;> rfl
    · rfl
  · rfl
theorem aIc_wl (P : Int32 → Int32 → Prop) (dec : ∀ x y, Decidable (P x y)) (pc : Nat) (off : Int) (lv lv' st : List Value) (σ : aSt) : aIc P dec pc off lv' st σ = (aIc P dec pc off lv st σ).map (aWl lv') := by
  unfold aIc
  split
  · split
    · split <;> rfl
    · rfl
  · rfl
theorem aPrim_wl (S : List aSh) (K pc : Nat) (lv lv' st : List Value) (σ : aSt) : aPrim S K pc lv' st σ = (aPrim S K pc lv st σ).map (aWl lv') := by
  unfold aPrim
  split
  · split
    · exact aGd_wl _ _ _ _ rfl
    · rfl
  · split
    · exact aGd_wl _ _ _ _ rfl
    · rfl
  · split
    · exact aGd_wl _ _ _ _ rfl
    · rfl
  · split
    · exact aGd_wl _ _ _ _ rfl
    · rfl
  · split
    · split
      · split
        · exact aGd_wl _ _ _ _ rfl
        · rfl
      · rfl
    · rfl
  · rfl
theorem aIns_wl {ins : Instr} (hl : aLoc ins = false) (X : aXt) (S : List aSh) (M : aM) (pc : Nat) (lv lv' st : List Value) (σ : aSt) : aIns X S M pc ins lv' st σ = (aIns X S M pc ins lv st σ).map (aWl lv') := by
  cases ins
  case iload_n => cases hl
  case iload => cases hl
  case lload_n => cases hl
  case lload => cases hl
  case aload_n => cases hl
  case aload => cases hl
  case istore_n => cases hl
  case istore => cases hl
  case lstore_n => cases hl
  case lstore => cases hl
  case astore_n => cases hl
  case astore => cases hl
  case iinc => cases hl
  case iadd => exact aII_wl ..
  case isub => exact aII_wl ..
  case imul => exact aII_wl ..
  case iand => exact aII_wl ..
  case ior => exact aII_wl ..
  case ixor => exact aII_wl ..
  case ishl => exact aII_wl ..
  case ishr => exact aII_wl ..
  case iushr => exact aII_wl ..
  case idiv => exact aIID_wl ..
  case irem => exact aIID_wl ..
  case ladd => exact aLL_wl ..
  case lsub => exact aLL_wl ..
  case lmul => exact aLL_wl ..
  case land => exact aLL_wl ..
  case lor => exact aLL_wl ..
  case ldiv => exact aLLD_wl ..
  case lrem => exact aLLD_wl ..
  case lshl => exact aLI_wl ..
  case lushr => exact aLI_wl ..
  case lcmp => exact aLL_wl ..
  case i2l => exact aI1_wl ..
  case i2b => exact aI1_wl ..
  case l2i => exact aL1_wl ..
  case ifCond c off => cases c <;> exact aIf_wl ..
  case if_icmp c off => cases c <;> exact aIc_wl ..
  case goto off => exact aJp_wl ..
  case tableswitch =>
    simp only [aIns]
    split
    · split
      · exact aJp_wl ..
      · split
        · exact aJp_wl ..
        · rfl
    · rfl
  case lookupswitch =>
    simp only [aIns]
    split
    · split
      · exact aJp_wl ..
      · rfl
    · rfl
  case ldc =>
    simp only [aIns]
    split
    · rfl
    · exact aGd_wl _ _ _ _ rfl
    · rfl
  case ldc_w =>
    simp only [aIns]
    split
    · rfl
    · exact aGd_wl _ _ _ _ rfl
    · rfl
  case getstatic =>
    simp only [aIns]
    split
    · exact aGd_wl _ _ _ _ rfl
    · rfl
  case invokestatic =>
    simp only [aIns]
    split
    · split
      · exact aPrim_wl ..
      · split
        · split <;> rfl
        · rfl
    · rfl
  all_goals
    simp only [aIns]
    repeat' split
    all_goals rfl
