/-! THE JDK's TEXTS: length and charAt of a literal -/
def aCJ (own : String) : aCl := (own, [], [], [])
def aM_J3ci : aM := (yJ3_checkIndex_8e157, cJ3_checkIndex_8e157, 3, some .int, aCJ RJ3, [(0, .iload_n 0, 1), (1, .ifCond .lt 8, 3), (4, .iload_n 0, 1), (5, .iload_n 1, 1), (6, .if_icmp .lt 10, 3), (16, .iload_n 0, 1), (17, .ireturn, 1)], 1620)
def aM_J0ci : aM := (yJ0_checkIndex_df160, cJ0_checkIndex_df160, 2, none, aCJ RJ0, [(0, .iload_n 0, 1), (1, .iload_n 1, 1), (2, .getstatic 1053, 3), (5, .invokestatic 1059, 3), (8, .pop, 1), (9, .return_, 1)], 1615)
def aM_J1ch : aM := (yJ1_charAt_3b067, cJ1_charAt_3b067, 2, some .char, aCJ RJ1, [(0, .iload_n 1, 1), (1, .aload_n 0, 1), (2, .arraylength, 1), (3, .invokestatic 9, 3), (6, .aload_n 0, 1), (7, .iload_n 1, 1), (8, .baload, 1), (9, .sipush 255, 3), (12, .iand, 1), (13, .i2c, 1), (14, .ireturn, 1)], 1612)
def aM_J0la : aM := (yJ0_isLatin1_aae02, cJ0_isLatin1_aae02, 1, some .boolean, aCJ RJ0, [(0, .getstatic 38, 3), (3, .ifCond .eq 14, 3), (6, .aload_n 0, 1), (7, .getfield 15, 3), (10, .ifCond .ne 7, 3), (13, .iconst 1, 1), (14, .goto 4, 3), (17, .iconst 0, 1), (18, .ireturn, 1)], 1609)
def aM_J0co : aM := (yJ0_coder_7d493, cJ0_coder_7d493, 1, some .byte, aCJ RJ0, [(0, .getstatic 38, 3), (3, .ifCond .eq 10, 3), (6, .aload_n 0, 1), (7, .getfield 15, 3), (10, .goto 4, 3), (13, .iconst 1, 1), (14, .ireturn, 1)], 1599)
def aM_J0ch : aM := (yJ0_charAt_5068e, cJ0_charAt_5068e, 2, some .char, aCJ RJ0, [(0, .aload_n 0, 1), (1, .invokevirtual 492, 3), (4, .ifCond .eq 12, 3), (7, .aload_n 0, 1), (8, .getfield 9, 3), (11, .iload_n 1, 1), (12, .invokestatic 495, 3), (15, .ireturn, 1)], 1605)
def aM_J0le : aM := (yJ0_length_8abf5, cJ0_length_8abf5, 1, some .int, aCJ RJ0, [(0, .aload_n 0, 1), (1, .getfield 9, 3), (4, .arraylength, 1), (5, .aload_n 0, 1), (6, .invokevirtual 335, 3), (9, .ishr, 1), (10, .ireturn, 1)], 1595)
def aM_J9fd : aM := (yJ9_floorDiv_7cf53, cJ9_floorDiv_7cf53, 3, some .int, aCJ RJ9, [(0, .iload_n 0, 1), (1, .iload_n 1, 1), (2, .idiv, 1), (3, .istore_n 2, 1), (4, .iload_n 0, 1), (5, .iload_n 1, 1), (6, .ixor, 1), (7, .ifCond .ge 14, 3), (10, .iload_n 2, 1), (11, .iload_n 1, 1), (12, .imul, 1), (13, .iload_n 0, 1), (14, .if_icmp .eq 7, 3), (17, .iload_n 2, 1), (18, .iconst 1, 1), (19, .isub, 1), (20, .ireturn, 1), (21, .iload_n 2, 1), (22, .ireturn, 1)], 983)
def aJs : List aM := [aM_J3ci, aM_J0ci, aM_J1ch, aM_J0la, aM_J0co, aM_J0ch, aM_J0le, aM_J9fd]
/-- as aMC, of a method that no native runs -/
def aMD (M : aM) : Bool := (aWd (aWi M) (.code (aY M) (aBy M) (aML M) (aRt M)) && (plainFor (aY M) && decide ((aY M).cls = aOwn M))) && Nat.ble (aML M) 22
theorem aMD_of {M : aM} (h : aMC M = true) : aMD M = true := by
  simp only [aMC, aMD, Bool.and_eq_true] at h ⊢
  exact ⟨⟨h.1.1, plainFor_of_name h.1.2.1, h.1.2.2⟩, h.2⟩
set_option maxRecDepth 100000 in
theorem aJs_ok : aJs.all (fun M => aMD M && (aCoC M && (aClC aProg (aCs M) && aStrOK (aCs M)))) = true := by decide +kernel
theorem aJ_ok {M : aM} (h : M ∈ aJs) : aMD M = true ∧ aCoC M = true ∧ (aClC aProg (aCs M) = true ∧ aStrOK (aCs M) = true) := by
  have := List.all_eq_true.mp aJs_ok M h
  simp only [Bool.and_eq_true] at this
  exact ⟨this.1, this.2.1, this.2.2⟩
/-- some steps at once -/
def aN (X : aXt) (S : List aSh) (M : aM) : Nat → aC → Option aC
  | 0, z => some z
  | n + 1, z => match aStep X S M z.1 z.2.1 z.2.2.1 z.2.2.2 with
    | some (.inl z') => aN X S M n z'
    | _ => none
section JS
variable {p : Program} {l : Launch} {e : Env} {R : Room} {s : State} {m : MethodId} {args : Array Value} {below : List Frame} {meth : Method} {c : Code} {H : Heap} {locs : List Loc} {cells slots : Nat} {Q : State → Prop}
variable {X : aXt} {S : List aSh} {M : aM} {ad : Nat → Nat} {cA : Nat → ClassId} {D : va_G} {tys : List (ClassId × FieldType)} {pc : Nat} {lv st : List Value} {σ : aSt} {ls : Array Slot}
theorem jN (hok : aCoC M = true ∧ (aClC aProg (aCs M) = true ∧ aStrOK (aCs M) = true)) (hF : aFx M p s m c args) (hC : aCx X S ad cA D tys s.heap.size s) (hrm : 1 ≤ R.frames ∧ 60 ≤ R.locals ∧ cells ≤ R.cells ∧ slots ≤ R.slots) : ∀ (n : Nat) (z z' : aC) {H : Heap} {locs : List Loc} {ls : Array Slot}, aN X S M n z = some z' → aWo S ad cA D s z.2.2.2 H locs → aLs ad ls (aML M) z.2.1 →
    aKK p l e R s m args below meth c cells slots Q S M ad cA D z' → W p l e R s m args below meth c H locs cells slots Q (F0 m z.1 ls (z.2.2.1.map (aV ad)))
  | 0, z, z', _, _, _, h, hW, hl, kk => by
    cases h
    exact kk _ _ _ hW hl
  | n + 1, z, z', _, _, _, h, hW, hl, kk => by
    unfold aN at h
    split at h
    · rename_i z1 hs
      unfold aStep at hs
      split at hs
      · rename_i q hq
        obtain ⟨hd, hn⟩ := aCo_dec hok.1 hq
        exact aS_go hF hok.2.1 hok.2.2 hC hrm hd hn hW hl hs (fun H1 locs1 ls1 hW1 hl1 => jN hok hF hC hrm n z1 z' h hW1 hl1 kk)
      · cases hs
    · cases h
/-- a call of a static method, by its contract -/
theorem jCallS {M' : aM} {i n d' : Nat} {as r : List Value} {v : Option Value} {σ2 : aSt} (hok : aMD M' = true) (hF : aFx M p s m c args) (hC : aCx X S ad cA D tys s.heap.size s) (hroom : d' + 7 ≤ R.frames ∧ 41 * (d' + 7) ≤ R.locals ∧ cells ≤ R.cells ∧ slots ≤ R.slots)
    (hlink : Cond.methodLink (aOwn M) i (aY M') ∈ aTB) (hini : Cond.initialized (aY M').cls ∈ aTB) (hst : Cond.static (aY M') ∈ aTB) (hdesc : (aY M').cls ≠ "java/lang/invoke/MethodHandle" ∧ (aY M').cls ≠ "java/lang/invoke/VarHandle" ∧ (parseMethodDescriptor (aY M').desc).map (fun d => d.parameters.length) = some n)
    (hd : decode (aBy M) pc = .ok (.invokestatic i, 3)) (hlen : as.length = n) (hcat : aCat r ≤ 8) (hM : aMet X S l d' M' as σ v σ2) (hW : aWo S ad cA D s σ H locs) (hl : aLs ad ls (aML M) lv)
    (kk : aKK p l e R s m args below meth c cells slots Q S M ad cA D (pc + 3, lv, v.toList ++ r, σ2)) : W p l e R s m args below meth c H locs cells slots Q (F0 m pc ls ((as.reverse ++ r).map (aV ad))) := by
  obtain ⟨hx, hb, hml, hown, hts⟩ := hF
  obtain ⟨hP, hS⟩ := hW
  simp only [aMD, Bool.and_eq_true, decide_eq_true_eq] at hok
  obtain ⟨⟨hcode, hplain, hownM⟩, hml22⟩ := hok
  have hml22 := Nat.le_of_ble_eq_true hml22
  have hcode := aWd_mem hcode
  have hGI := aGoodIn M' hcode
  have hCm : ∀ U : State, U.heap = H → s.WarmedH U.vm → aCx X S ad cA D tys H.size U := fun U hU hWm => by
    have := hC.moved (U := U) (locs := locs) (by rw [hU]; exact hS) hWm
    rw [hU] at this
    exact this
  have hRR : (aRm d').frames + 1 ≤ R.frames ∧ 8 + (aML M' + 11) + (aRm d').locals ≤ R.locals := by
    simp only [aRm]
    omega
  have hcw : CallB R s args (aOwn M) i (aY M') (aBy M') (aML M') (aRt M') (aWs M') (aRm d') 0 0 n ∧ (Cond.static (aY M')).before args s = true := ⟨callB_of n hts hGI rfl rfl rfl (hts _ hini) (hts _ hlink) hdesc hRR, hts _ hst⟩
  exact aW_run (M := M) (lv := lv) hC hS hl (va_runS (As := as.map (aV ad)) (rest := r.map (aV ad)) ⟨hx, hb, hml, hown, hts⟩ (hM D ad cA tys H.size) hcw ⟨aPre_blind, fun U hU hWm => ⟨rfl, by rw [hU]; exact hP, hCm U hU hWm⟩⟩ rfl (by rw [List.length_map]; exact hlen) hl.1 (by simp) (lv_room (by rw [aCat_sum]; exact hcat)) hd ⟨by omega, by omega⟩) kk
/-- a call of a literal's method, by its contract -/
theorem jCallV {M' : aM} {i n d' k : Nat} {as r : List Value} {v : Option Value} {σ2 : aSt} (hok : aMD M' = true) (hk : k < 5) (hF : aFx M p s m c args) (hC : aCx X S ad cA D tys s.heap.size s) (hroom : d' + 7 ≤ R.frames ∧ 41 * (d' + 7) ≤ R.locals ∧ cells ≤ R.cells ∧ slots ≤ R.slots)
    (hlink : Cond.methodLink (aOwn M) i (aY M') ∈ aTB) (hini : Cond.initialized (aY M').cls ∈ aTB) (hinst : Cond.instanceMethod (aY M') ∈ aTB) (hsel : Cond.selects "java/lang/String" (aY M') (aY M') ∈ aTB) (hdesc : (aY M').cls ≠ "java/lang/invoke/MethodHandle" ∧ (aY M').cls ≠ "java/lang/invoke/VarHandle" ∧ (parseMethodDescriptor (aY M').desc).map (fun d => d.parameters.length) = some n)
    (hd : decode (aBy M) pc = .ok (.invokevirtual i, 3)) (hlen : as.length = n) (hcat : aCat r ≤ 8) (hM : aMet X S l d' M' (.ref (2000 + k) :: as) σ v σ2) (hW : aWo S ad cA D s σ H locs) (hl : aLs ad ls (aML M) lv)
    (kk : aKK p l e R s m args below meth c cells slots Q S M ad cA D (pc + 3, lv, v.toList ++ r, σ2)) : W p l e R s m args below meth c H locs cells slots Q (F0 m pc ls ((as.reverse ++ .ref (2000 + k) :: r).map (aV ad))) := by
  obtain ⟨hx, hb, hml, hown, hts⟩ := hF
  obtain ⟨hP, hS⟩ := hW
  simp only [aMD, Bool.and_eq_true, decide_eq_true_eq] at hok
  obtain ⟨⟨hcode, hplain, hownM⟩, hml22⟩ := hok
  have hml22 := Nat.le_of_ble_eq_true hml22
  have hcode := aWd_mem hcode
  have hGI := aGoodIn M' hcode
  have hCm : ∀ U : State, U.heap = H → s.WarmedH U.vm → aCx X S ad cA D tys H.size U := fun U hU hWm => by
    have := hC.moved (U := U) (locs := locs) (by rw [hU]; exact hS) hWm
    rw [hU] at this
    exact this
  have hRR : (aRm d').frames + 1 ≤ R.frames ∧ 8 + (aML M' + 11) + (aRm d').locals ≤ R.locals := by
    simp only [aRm]
    omega
  have hcw : CallW R s args (aOwn M) "java/lang/String" i (aY M') (aBy M') (aML M') (aRt M') (aWs M') (aRm d') 0 0 n := ⟨callB_of n hts hGI rfl rfl rfl (hts _ hini) (hts _ hlink) hdesc hRR, hts _ hinst, hts _ hsel⟩
  have hrec := vk_recv hC.2.2.2.2.2.2.2.2.1 hk hS
  exact aW_run (M := M) (lv := lv) hC hS hl (va_runV (b := ad (2000 + k)) (As := as.map (aV ad)) (rest := r.map (aV ad)) ⟨hx, hb, hml, hown, hts⟩ (hM D ad cA tys H.size) hcw ⟨aPre_blind, hrec, fun U hU hWm => ⟨rfl, by rw [hU]; exact hP, hCm U hU hWm⟩⟩ rfl (by rw [List.length_map]; exact hlen) hl.1 (by simp [aV]) (lv_room (by rw [aCat_sum]; exact hcat)) hd ⟨by omega, by omega⟩) kk
end JS
theorem Met_ofWF {l : Launch} {y : MethodName} {ws ws' : List Cond} {rm : Room} {Pc : Array Value → State → Prop} {Qc : Array Value → State → Outcome → State → Prop} {mc ms : Nat} {free : Addr → Prop} {cc : ByteArray} {maxL : Nat} {ret : Option FieldType}
    (hy : plainFor y = true) (hw : ws = Cond.code y cc maxL ret :: ws')
    (body : ∀ p e s m args below meth c s₁, BodyLoose p l y (headSpec ws rm) cc maxL ret e s m args below meth c s₁ → c.maxLocals = maxL → Pc args s →
      W p l e (headSpec ws rm).room s m args below meth c s.heap [] 0 0 (MQ below Qc args s mc ms free) (entryFrame m args maxL)) : Met l y ws rm Pc Qc mc ms free := by
  refine MetFree.of_bodySF (code := cc) (maxLocals := maxL) (ret := ret) hy ?_ ?_
  · intro args s m h hn
    obtain ⟨meth, c, h1, h2, h3, h4, h5, h6, -, -⟩ := Cond.code_spec hn (atoms_spec (ws := ws) h _ (by rw [hw]; exact List.mem_cons_self))
    exact ⟨meth, c, h1, h2, h3, h4, h5, h6⟩
  · intro p e s m args below meth c s₁ B hml hP _
    have hh0 : s₁.heap = s.heap := by rw [B.state]; rfl
    obtain ⟨t, a1, o, b1, b2, b3⟩ := body p e s m args below meth c s₁ B hml hP s₁ hh0 (Stand.of_body B)
    exact ⟨t, o, a1, b1, b2, ⟨b3.1, b3.2⟩⟩
/-- a contract out of a walk -/
theorem jMet {X : aXt} {S : List aSh} {l : Launch} {d : Nat} {M : aM} {as : List Value} {σ : aSt} {v : Option Value} (hok : aMD M = true) (hble : (aArg as).length ≤ aML M)
    (h : ∀ {p : Program} {e : Env} {s : State} {m : MethodId} {args : Array Value} {below : List Frame} {meth : Method} {c : Code} {ad : Nat → Nat} {cA : Nat → ClassId} {D : va_G} {tys : List (ClassId × FieldType)} {ls : Array Slot}, aFx M p s m c args → meth.sig.returnType = aRt M → meth.locks = false → aCx X S ad cA D tys s.heap.size s → aWo S ad cA D s σ s.heap [] → aLs ad ls (aML M) (aEnt M as) →
      W p l e (aRm d) s m args below meth c s.heap [] 0 0 (MQ below (aQc S ad cA D v σ (aA ad S s.heap.size)) args s 0 0 (aA ad S s.heap.size)) (F0 m 0 ls [])) : aMet X S l d M as σ v σ := by
  intro D ad cA tys sz
  simp only [aMD, Bool.and_eq_true, decide_eq_true_eq] at hok
  obtain ⟨⟨hcode, hplain, hownM⟩, hml22⟩ := hok
  refine Met_ofWF (cc := aBy M) (maxL := aML M) (ret := aRt M) hplain rfl ?_
  intro p e s m args below meth c s₁ B hml hv
  obtain ⟨rfl, hP, hC⟩ := hv
  have hts := atoms_spec (ws := aWs M) B.pre
  have hown : s.vm.findClass (aOwn M) = some m.cls := by
    rw [← hownM]
    exact findClass_of_methodNamed B.named
  have hsz := hC.1
  subst hsz
  have hent := lv_entry (as.map (aV ad)) (n := aML M) (by rw [aArg_len]; exact hble)
  rw [lg_entry_eq]
  exact h ⟨B.exec, B.bytes, hml, hown, fun w hw => hts w (List.mem_cons_of_mem _ hw)⟩ B.returns B.notSynchronized hC ⟨hP, va_S.rf⟩ (aLs_ent hble hent)
