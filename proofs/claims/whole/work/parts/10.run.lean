/-! SOUNDNESS of returns, calls, and of a whole run -/
theorem aIf_no {P : Int32 → Prop} {dec : ∀ x, Decidable (P x)} {pc : Nat} {off : Int} {lv st : List Value} {σ : aSt} {y : (Option Value × aSt) ⊕ (Nat × List Value × aC)} (h : aIf P dec pc off lv st σ = some (.inr y)) : False := by
  unfold aIf at h
  simp only [aGo] at h
  repeat' (split at h)
  all_goals cases h
theorem aIc_no {P : Int32 → Int32 → Prop} {dec : ∀ x y, Decidable (P x y)} {pc : Nat} {off : Int} {lv st : List Value} {σ : aSt} {y : (Option Value × aSt) ⊕ (Nat × List Value × aC)} (h : aIc P dec pc off lv st σ = some (.inr y)) : False := by
  unfold aIc at h
  simp only [aGo] at h
  repeat' (split at h)
  all_goals cases h
theorem aIns_kind {X : aXt} {S : List aSh} {M : aM} {pc : Nat} {ins : Instr} {lv st : List Value} {σ : aSt} {y : (Option Value × aSt) ⊕ (Nat × List Value × aC)} (h : aIns X S M pc ins lv st σ = some (.inr y)) : ins = .ireturn ∨ ins = .lreturn ∨ ins = .return_ ∨ (∃ i, ins = .invokestatic i) ∨ ∃ i, ins = .invokevirtual i := by
  cases ins with
  | ireturn => exact Or.inl rfl
  | lreturn => exact Or.inr (Or.inl rfl)
  | return_ => exact Or.inr (Or.inr (Or.inl rfl))
  | invokestatic i => exact Or.inr (Or.inr (Or.inr (Or.inl ⟨i, rfl⟩)))
  | invokevirtual i => exact Or.inr (Or.inr (Or.inr (Or.inr ⟨i, rfl⟩)))
  | ifCond cd off =>
    exfalso
    cases cd <;> exact aIf_no h
  | if_icmp cd off =>
    exfalso
    cases cd <;> exact aIc_no h
  | _ =>
    exfalso
    simp only [aIns, aGo, aGd, aJp, aPut1, aPut2, aLdI, aLdL, aLdR, aStI, aStL, aStR, aII, aLL, aLI, aI1, aL1, aIID, aLLD] at h
    repeat' (split at h)
    all_goals cases h
theorem aTk_spec : ∀ (n : Nat) (acc st as r : List Value), aTk n acc st = some (as, r) → ∃ t, t.length = n ∧ st = t ++ r ∧ as = t.reverse ++ acc := by
  intro n
  induction n with
  | zero =>
    intro acc st as r h
    cases h
    exact ⟨[], rfl, rfl, rfl⟩
  | succ n ih =>
    intro acc st as r h
    cases st with
    | nil => cases h
    | cons v st =>
      obtain ⟨t, h1, h2, h3⟩ := ih (v :: acc) st as r h
      exact ⟨v :: t, by rw [List.length_cons, h1], by rw [h2]; rfl, by rw [h3]; simp⟩
theorem aTk0 {n : Nat} {st as r : List Value} (h : aTk n [] st = some (as, r)) : as.length = n ∧ st = as.reverse ++ r := by
  obtain ⟨t, h1, h2, h3⟩ := aTk_spec n [] st as r h
  rw [List.append_nil] at h3
  subst h3
  exact ⟨by rw [List.length_reverse, h1], by rw [List.reverse_reverse]; exact h2⟩
theorem aArg_mem (ad : Nat → Nat) : ∀ (as : List Value) (k i : Nat) (v : Value), (aArg as)[i]? = some v → v ≠ .null → (k + i, aV ad v) ∈ lv_args k (as.map (aV ad)) := by
  intro as
  induction as with
  | nil => intro k i v h; simp [aArg] at h
  | cons u r ih =>
    intro k i v h hv
    simp only [aArg] at h
    rw [List.map_cons, lv_args]
    split at h
    · rename_i hc
      have hc : u.category = 2 := by simpa using hc
      rw [aV_cat, if_pos hc]
      match i, h with
      | 0, h => cases h; exact List.mem_cons_self
      | 1, h => cases h; exact absurd rfl hv
      | i + 2, h =>
        have := ih (k + 2) i v (by simpa using h) hv
        exact List.mem_cons_of_mem _ (by rw [show k + (i + 2) = k + 2 + i by omega]; exact this)
    · rename_i hc
      have hc : ¬ u.category = 2 := by simpa using hc
      rw [aV_cat, if_neg hc]
      match i, h with
      | 0, h => cases h; exact List.mem_cons_self
      | i + 1, h =>
        have := ih (k + 1) i v (by simpa using h) hv
        exact List.mem_cons_of_mem _ (by rw [show k + (i + 1) = k + 1 + i by omega]; exact this)
theorem aArg_len (ad : Nat → Nat) : ∀ as : List Value, (lg_sl (as.map (aV ad))).length = (aArg as).length := by
  intro as
  induction as with
  | nil => rfl
  | cons u r ih =>
    simp only [lg_sl, List.map_cons, List.flatMap_cons, List.length_append, aArg]
    simp only [lg_sl] at ih
    rw [ih, aV_cat]
    rcases lv_cat u with h | h
    · simp [h]; omega
    · simp [h]; omega
theorem aLs_ent {ad : Nat → Nat} {M : aM} {as : List Value} {ls : Array Slot} (hle : (aArg as).length ≤ aML M) (h : lv_has ls (aML M) (lv_args 0 (as.map (aV ad)))) : aLs ad ls (aML M) (aEnt M as) := by
  refine ⟨h.1, h.2.1, ?_, fun i v hi hv => ?_⟩
  · rw [aEnt, List.length_append, List.length_replicate]
    omega
  · have hm : (aArg as)[i]? = some v := by
      rw [aEnt] at hi
      by_cases hlt : i < (aArg as).length
      · rw [List.getElem?_append_left hlt] at hi
        exact hi
      · rw [List.getElem?_append_right (by omega)] at hi
        rw [List.getElem?_replicate] at hi
        split at hi
        · cases hi; exact absurd rfl hv
        · cases hi
    have := aArg_mem ad as 0 i v hm hv
    rw [Nat.zero_add] at this
    exact h.2.2 _ this
/-- a method's words, its room at a depth, its end -/
def aWs (M : aM) : List Cond := Cond.code (aY M) (aBy M) (aML M) (aRt M) :: aTB
def aRm (d : Nat) : Room := { frames := d + 6, cells := 0, slots := 0, locals := 41 * (d + 6) }
def aQc (S : List aSh) (ad : Nat → Nat) (cA : Nat → ClassId) (D : va_G) (v : Option Value) (σ' : aSt) (A : Nat → Prop) : Array Value → State → Outcome → State → Prop :=
  fun _ st o t => o = .returned (v.map (aV ad)) ∧ va_P D vwCl (aW ad cA S σ') t.heap ∧ va_F A st t
def aPre (X : aXt) (S : List aSh) (ad : Nat → Nat) (cA : Nat → ClassId) (D : va_G) (tys : List (ClassId × FieldType)) (sz : Nat) (as : List Value) (σ : aSt) : Array Value → State → Prop :=
  va_Pc (as.map (aV ad)) (fun U => va_P D vwCl (aW ad cA S σ) U.heap ∧ aCx X S ad cA D tys sz U)
def aMet (X : aXt) (S : List aSh) (l : Launch) (d : Nat) (M : aM) (as : List Value) (σ : aSt) (v : Option Value) (σ' : aSt) : Prop :=
  ∀ (D : va_G) (ad : Nat → Nat) (cA : Nat → ClassId) (tys : List (ClassId × FieldType)) (sz : Nat), Met l (aY M) (aWs M) (aRm d) (aPre X S ad cA D tys sz as σ) (aQc S ad cA D v σ' (aA ad S sz)) 0 0 (aA ad S sz)
theorem aCx.moved {X : aXt} {S : List aSh} {ad : Nat → Nat} {cA : Nat → ClassId} {D : va_G} {tys : List (ClassId × FieldType)} {sz : Nat} {s U : State} {locs : List Loc} (hC : aCx X S ad cA D tys sz s) (hS : va_S (aA ad S sz) s.heap U.heap locs) (hW : s.WarmedH U.vm) : aCx X S ad cA D tys U.heap.size U := by
  obtain ⟨hsz, hK, hT, hI, hE, hZ, hN, hR, hXX⟩ := hC
  have hle : sz ≤ U.heap.size := by rw [← hsz]; exact hS.1
  have hAB : ∀ q, q < U.heap.size → aA ad S U.heap.size q → aA ad S sz q := fun q hq h => h.elim Or.inl (fun h => absurd h (by omega))
  have hkeep : ∀ a : Nat, a < s.heap.size → ¬ aA ad S sz a → U.heap[a]? = s.heap[a]? := hS.2.1
  refine ⟨rfl, va_K.moved hW.alike hK, hT, hI, fun a n f hs hX => ?_, fun q hq => ?_, fun w hw => ?_, fun q hq => vk_R.warm hW (hR q hq), hXX.moved hW.alike hkeep (fun q h => h.imp id (fun h => Nat.le_trans hle h))⟩
  · have h1 := (va_T.moved hW.alike (hE a n f hs hX)).kept hkeep
    obtain ⟨cell, e1, e2, e3, e4, e5, e6, e7⟩ := h1
    exact ⟨cell, e1, e2, e3, e4, e5, e6, fun z => e7 (hAB _ (Array.getElem?_eq_some_iff.mp e1).1 z)⟩
  · have h1 := (va_Z.moved hW.alike (hZ q hq)).kept hkeep
    obtain ⟨cf, kf, fi, f, a, cell, h1, h2, h3, h4, h5, h6, h7, h8⟩ := h1
    exact ⟨cf, kf, fi, f, a, cell, h1, h2, h3, h4, h5, h6, h7, fun z => h8 (hAB _ (Array.getElem?_eq_some_iff.mp h5).1 z)⟩
  · have := hN w hw
    simp only [aNest, List.mem_cons, List.not_mem_nil, or_false] at hw
    rcases hw with rfl | rfl
    · exact va_Nw.warmF hW this
    · exact va_Nw.warmF hW this
theorem aCx.blind {X : aXt} {S : List aSh} {ad : Nat → Nat} {cA : Nat → ClassId} {D : va_G} {tys : List (ClassId × FieldType)} {sz : Nat} {U V : State} (hh : V.heap = U.heap) (hv : V.vm = U.vm) (hC : aCx X S ad cA D tys sz U) : aCx X S ad cA D tys sz V := by
  obtain ⟨hsz, hK, hT, hI, hE, hZ, hN, hR, hXX⟩ := hC
  have ha : U.vm.Alike V.vm := by rw [hv]; exact Vm.Alike.refl U.vm
  refine ⟨by rw [hh]; exact hsz, va_K.moved ha hK, hT, hI, fun a n f hs hX => ?_, fun q hq => ?_, fun w hw => ?_, fun q hq => vk_R.same hv (hR q hq), hXX.moved ha (fun a _ _ => by rw [hh]) (fun _ h => h)⟩
  · rw [hh]; exact va_T.moved ha (hE a n f hs hX)
  · rw [hh]; exact va_Z.moved ha (hZ q hq)
  · have := hN w hw
    simp only [aNest, List.mem_cons, List.not_mem_nil, or_false] at hw
    rcases hw with rfl | rfl
    · exact va_Nw.same rfl hv.symm this
    · exact va_Nw.same rfl hv.symm this
theorem aPre_blind {X : aXt} {S : List aSh} {ad : Nat → Nat} {cA : Nat → ClassId} {D : va_G} {tys : List (ClassId × FieldType)} {sz : Nat} {as : List Value} {σ : aSt} : FrameBlind (aPre X S ad cA D tys sz as σ) := by
  intro a U g mk q
  obtain ⟨q0, qP, qC⟩ := q
  exact ⟨q0, qP, aCx.blind (U := U) (V := U.calling g mk a) rfl rfl qC⟩
theorem aGoodIn (M : aM) (h : Cond.code (aY M) (aBy M) (aML M) (aRt M) ∈ aTB) : GoodIn aTB (aWs M) := by
  intro w hw
  have hm : w ∈ aTB := by
    rcases List.mem_cons.mp hw with rfl | hw
    · exact h
    · exact hw
  exact ⟨hm, good_of_word (List.mem_filter.mp hm).2⟩
section AS
variable {p : Program} {l : Launch} {e : Env} {R : Room} {s : State} {m : MethodId} {args : Array Value} {below : List Frame} {meth : Method} {c : Code} {H : Heap} {locs : List Loc} {cells slots : Nat} {Q : State → Prop}
variable {X : aXt} {S : List aSh} {P : List aM} {M : aM} {ad : Nat → Nat} {cA : Nat → ClassId} {D : va_G} {tys : List (ClassId × FieldType)} {pc : Nat} {lv st : List Value} {σ : aSt} {ls : Array Slot} {z : aC}
theorem aS_go {ins : Instr} {len : Nat} (hF : aFx M p s m c args) (hcl : aClC P (aCs M) = true) (hso : aStrOK (aCs M) = true) (hC : aCx X S ad cA D tys s.heap.size s) (hrm : 1 ≤ R.frames ∧ 60 ≤ R.locals ∧ cells ≤ R.cells ∧ slots ≤ R.slots) (hd : decode (aBy M) pc = .ok (ins, len)) (hn : len = aLn ins len) (hW : aWo S ad cA D s σ H locs) (hl : aLs ad ls (aML M) lv)
    (h : aIns X S M pc ins lv st σ = some (.inl z)) (kk : aKK p l e R s m args below meth c cells slots Q S M ad cA D z) : W p l e R s m args below meth c H locs cells slots Q (F0 m pc ls (st.map (aV ad))) := by
  cases ins with
  | iaload => exact aS_go2 hF hcl hC hrm hd hn hW hl trivial h kk
  | baload => exact aS_go2 hF hcl hC hrm hd hn hW hl trivial h kk
  | laload => exact aS_go2 hF hcl hC hrm hd hn hW hl trivial h kk
  | aaload => exact aS_go2 hF hcl hC hrm hd hn hW hl trivial h kk
  | iastore => exact aS_go2 hF hcl hC hrm hd hn hW hl trivial h kk
  | bastore => exact aS_go2 hF hcl hC hrm hd hn hW hl trivial h kk
  | lastore => exact aS_go2 hF hcl hC hrm hd hn hW hl trivial h kk
  | arraylength => exact aS_go2 hF hcl hC hrm hd hn hW hl trivial h kk
  | getfield _ => exact aS_go2 hF hcl hC hrm hd hn hW hl trivial h kk
  | putfield _ => exact aS_go2 hF hcl hC hrm hd hn hW hl trivial h kk
  | getstatic _ => exact aS_go2 hF hcl hC hrm hd hn hW hl trivial h kk
  | invokestatic _ => exact aS_go2 hF hcl hC hrm hd hn hW hl trivial h kk
  | _ => exact aS_go1 hF hcl hso hC.2.2.2.2.2.2.2.1 hd hn hW hl trivial h kk
theorem aS_ret {ins : Instr} {len : Nat} {v : Option Value} {σ' : aSt} {Qc : Array Value → State → Outcome → State → Prop} {free : Addr → Prop} (hF : aFx M p s m c args) (hr : meth.sig.returnType = aRt M) (hlocks : meth.locks = false) (hd : decode (aBy M) pc = .ok (ins, len)) (hn : len = aLn ins len)
    (h : aIns X S M pc ins lv st σ = some (.inr (.inl (v, σ')))) (hq : σ' = σ → ∀ t : State, t.heap = H → s.WarmedH t.vm → Qc args s (.returned (v.map (aV ad))) t) (hf : ∀ q ∈ locs, free q.base) : W p l e R s m args below meth c H locs cells slots (MQ below Qc args s cells slots free) (F0 m pc ls (st.map (aV ad))) := by
  obtain ⟨hx, hb, hml, hown, hts⟩ := hF
  rcases aIns_kind h with rfl | rfl | rfl | ⟨i, rfl⟩ | ⟨i, rfl⟩
  · rw [hn] at hd
    simp only [aIns] at h
    split at h
    · rename_i x
      split at h
      · rename_i hrt
        cases h
        exact W.zret (v := x) (ty := .int) hx hb (by rw [hr, hrt]) rfl (hq rfl) hf hd hlocks
      · rename_i hrt
        split at h
        · rename_i hx01
          cases h
          refine W.zret (v := x) (ty := .boolean) hx hb (by rw [hr, hrt]) ?_ (hq rfl) hf hd hlocks
          rcases hx01 with rfl | rfl
          · decide
          · decide
        · cases h
      · cases h
    · cases h
  · rw [hn] at hd
    simp only [aIns] at h
    split at h
    · rename_i x
      split at h
      · rename_i hrt
        cases h
        exact W.lret (v := x) hx hb (by rw [hr, hrt]) (hq rfl) hf hd hlocks
      · cases h
    · cases h
  · rw [hn] at hd
    simp only [aIns] at h
    split at h
    · rename_i hrt
      cases h
      exact W.vret hx hb (by rw [hr, hrt]) (hq rfl) hf hd hlocks
    · cases h
  · exfalso
    simp only [aIns, aPrim, aGd, aGo] at h
    repeat' (split at h)
    all_goals cases h
  · exfalso
    simp only [aIns] at h
    repeat' (split at h)
    all_goals cases h
end AS
