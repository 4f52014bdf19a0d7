/-! HalfDoneLaw.thing -/
def aL_Lth : List (Nat × Instr × Nat) := [(0, .aload_n 3, 1), (1, .iconst 0, 1), (2, .aload_n 0, 1), (3, .iload_n 1, 1), (4, .iload_n 2, 1), (5, .invokevirtual 7, 3), (8, .i2l, 1), (9, .lastore, 1), (10, .goto 7, 3), (13, .astore 4, 2), (15, .iconst 1, 1), (16, .ireturn, 1), (17, .iconst 0, 1), (18, .ireturn, 1)]
def aM_Lth : aM := (yL_thing, cL_thing, 5, some .int, aC_RL, aL_Lth, 0)
set_option maxRecDepth 100000 in
theorem aLth_ok2 : aCoC aM_Lth = true := by decide +kernel
theorem aLth_ok : aCoC aM_Lth = true ∧ (aClC aProg (aCs aM_Lth) = true ∧ aStrOK (aCs aM_Lth) = true) := ⟨aLth_ok2, aOC_RL, by decide +kernel⟩
def hhT : List (Nat × Nat × Nat × Nat) := [(0, 10, 13, 13)]
def wsT : List Cond := Cond.codeWith yL_thing cL_thing 5 (some .int) hhT :: aTB
def ltMet (X : aXt) (S : List aSh) (l : Launch) (d : Nat) (as : List Value) (σ : aSt) (v : Option Value) (σ' : aSt) : Prop :=
  ∀ (D : va_G) (ad : Nat → Nat) (cA : Nat → ClassId) (tys : List (ClassId × FieldType)) (sz : Nat), Met l yL_thing wsT (rm1 d) (thPre X S ad cA D tys sz as σ) (aQc S ad cA D v σ' (aA ad S sz)) 1 6 (aA ad S sz)
theorem Met_ofWH {l : Launch} {y : MethodName} {ws ws' : List Cond} {rm : Room} {Pc : Array Value → State → Prop} {Qc : Array Value → State → Outcome → State → Prop} {mc ms : Nat} {free : Addr → Prop} {cc : ByteArray} {maxL : Nat} {ret : Option FieldType} {hh : List (Nat × Nat × Nat × Nat)}
    (hy : plainFor y = true) (hw : ws = Cond.codeWith y cc maxL ret hh :: ws')
    (body : ∀ p e s m args below meth c s₁, BodyLoose p l y (headSpec ws rm) cc maxL ret e s m args below meth c s₁ → c.maxLocals = maxL → c.exceptionTable.toList = tableOf hh → Pc args s →
      W p l e (headSpec ws rm).room s m args below meth c s.heap [] 0 0 (MQ below Qc args s mc ms free) (entryFrame m args maxL)) : Met l y ws rm Pc Qc mc ms free := by
  refine MetFree.of_bodySF (code := cc) (maxLocals := maxL) (ret := ret) hy ?_ ?_
  · intro args s m h hn
    obtain ⟨m', meth, c, hn', h1, h2, h3, h4, -, h5, h6, -⟩ := Cond.codeWith_spec (atoms_spec (ws := ws) h _ (by rw [hw]; exact List.mem_cons_self))
    cases hn.symm.trans hn'
    exact ⟨meth, c, h1, h2, h3, h4, h5, h6⟩
  · intro p e s m args below meth c s₁ B hml hP _
    have hh0 : s₁.heap = s.heap := by rw [B.state]; rfl
    have ht := vx_table (x := y) B (atoms_spec (ws := ws) B.pre _ (by rw [hw]; exact List.mem_cons_self))
    obtain ⟨t, a1, o, b1, b2, b3⟩ := body p e s m args below meth c s₁ B hml ht hP s₁ hh0 (Stand.of_body B)
    exact ⟨t, o, a1, b1, b2, ⟨b3.1, b3.2⟩⟩
theorem jT1 : Cond.methodLink R_law 7 yX11_thing ∈ aTB := jw 1272 _ (by decide +kernel)
theorem jT2 : Cond.instanceMethod yX11_thing ∈ aTB := jw 1273 _ (by decide +kernel)
theorem jT3 : Cond.selects RX11 yX11_thing yX11_thing ∈ aTB := jw 1274 _ (by decide +kernel)
theorem jT4 : Cond.initialized RX11 ∈ aTB := jw 115 _ (by decide +kernel)
theorem jT5 : Cond.classLink R_law 13 nseN ∈ aTB := jw 1271 _ (by decide +kernel)
theorem jT6 : Cond.code yX11_thing cX11_thing 3 (some .int) ∈ aTB := jw 1275 _ (by decide +kernel)
section TL
variable {p : Program} {l : Launch} {e : Env} {R : Room} {s : State} {m : MethodId} {args : Array Value} {below : List Frame} {meth : Method} {c : Code} {H : Heap} {locs : List Loc} {cells slots : Nat} {Q : State → Prop}
variable {X : aXt} {S : List aSh} {ad : Nat → Nat} {cA : Nat → ClassId} {D : va_G} {tys : List (ClassId × FieldType)} {pc : Nat} {σ : aSt} {ls : Array Slot}
/-- behind a call that throws -/
theorem aW_thr {st0 r : List Value} (hS : va_S (aA ad S s.heap.size) s.heap H locs)
    (hr : vx_Run p l e R s m args below meth c H locs cells slots 1 6 (F0 m pc ls st0) r (fun _ _ _ => False) (thXC S ad cA D σ (aA ad S H.size)) (aA ad S H.size))
    (kx : ∀ (H1 : Heap) (locs1 : List Loc) (q : Addr) (ce : Cell), aWo S ad cA D s σ H1 locs1 → H1[q]? = some ce → ce.vm = .none → s.vm.findClass nseN = some ce.cls → vx_W p l e R s m args below meth c H1 locs1 (cells + 1) (slots + 6) Q (F0 m pc ls r) q) : W p l e R s m args below meth c H locs cells slots Q (F0 m pc ls st0) := by
  intro T hT X0
  rcases hr T hT X0 with ⟨v, st₀, t, T', L, h0, X', hL, e1, e2, hF, st⟩ | ⟨q, st₀, t, T', L, E, ce, h0, X', hL, e1, e2, ⟨rfl, hP, hz, hk⟩, hce, hcv, hcl, st⟩
  · exact hF.elim
  · rw [h0] at hz hk
    have hA : ∀ q, q < H.size → aA ad S H.size q → aA ad S s.heap.size q := fun q hq h => h.elim Or.inl (fun h => absurd h (by omega))
    obtain ⟨t2, a1, b1⟩ := kx T'.heap (locs ++ L) q ce ⟨by rw [e1]; exact hP, ⟨Nat.le_trans hS.1 (by rw [e1]; exact hz), fun q h1 h2 => by rw [e1, hk q (Nat.lt_of_lt_of_le h1 hS.1) (fun z => h2 (hA q (Nat.lt_of_lt_of_le h1 hS.1) z))]; exact hS.2.1 q h1 h2, fun q hq => by
        rcases List.mem_append.mp hq with h | h
        · exact hS.2.2 q h
        · exact (hL q h).elim Or.inl (fun z => Or.inr (Nat.le_trans hS.1 z))⟩⟩ (by rw [e1]; exact hce) hcv hcl T' rfl X'
    exact ⟨t2, st.trans a1, b1⟩
end TL
theorem c_Lth_throws {xs : List Int32} {l : Launch} (hl0 : l.stackTraces = false) {d : Nat} (hd : 3 ≤ d) {b0 b1 b2 : Bool} {m9 : Nat → Int → Int} {x1 x2 : Int} (hx1 : inR x1) (hx2 : inR x2) (hm : inR (m9 (bW b0) 9)) (hno : ¬ ((0 ≤ x1 ∧ x1 < m9 (bW b0) 9) ∧ 0 ≤ x2 ∧ x2 ≤ 8)) : ltMet (bX xs) aS l d [.ref 0, .int (Int32.ofInt x1), .int (Int32.ofInt x2), .ref 150] (bσ ((b0, b1, b2), m9)) (some (.int 1)) (bσ ((b0, b1, b2), m9)) := by
  obtain ⟨d', rfl⟩ : ∃ d', d = d' + 1 := ⟨d - 1, by omega⟩
  intro D ad cA tys sz
  refine Met_ofWH (cc := cL_thing) (maxL := 5) (ret := some .int) (hh := hhT) (by decide +kernel) rfl ?_
  intro p e s m args below meth c s₁ B hml htab hv
  obtain ⟨rfl, hP, hC, hE⟩ := hv
  have hts := atoms_spec (ws := wsT) B.pre
  have hown : s.vm.findClass R_law = some m.cls := findClass_of_methodNamed B.named
  have hsz := hC.1
  subst hsz
  have hF : aFx aM_Lth p s m c (([.ref 0, .int (Int32.ofInt x1), .int (Int32.ofInt x2), .ref 150] : List Value).map (aV ad)).toArray := ⟨B.exec, B.bytes, hml, hown, fun w hw => hts w (List.mem_cons_of_mem _ hw)⟩
  have hr := B.returns
  have hlocks := B.notSynchronized
  have hent := lv_entry (([.ref 0, .int (Int32.ofInt x1), .int (Int32.ofInt x2), .ref 150] : List Value).map (aV ad)) (n := 5) (by rw [aArg_len]; show 4 ≤ 5; omega)
  rw [lg_entry_eq]
  have hl := aLs_ent (ad := ad) (M := aM_Lth) (as := [.ref 0, .int (Int32.ofInt x1), .int (Int32.ofInt x2), .ref 150]) (by show 4 ≤ 5; omega) hent
  have hrm : 1 ≤ (rm1 (d' + 1)).frames ∧ 60 ≤ (rm1 (d' + 1)).locals ∧ 0 ≤ (rm1 (d' + 1)).cells ∧ 0 ≤ (rm1 (d' + 1)).slots := ⟨by show 1 ≤ d' + 1 + 6; omega, by show 60 ≤ 41 * (d' + 1 + 6); omega, Nat.zero_le _, Nat.zero_le _⟩
  have hW : aWo aS ad cA D s (bσ ((b0, b1, b2), m9)) s.heap [] := ⟨hP, va_S.rf⟩
  refine jN aLth_ok hF hC hrm 5 (0, [.ref 0, .int (Int32.ofInt x1), .int (Int32.ofInt x2), .ref 150, .null], [], bσ ((b0, b1, b2), m9)) (5, [.ref 0, .int (Int32.ofInt x1), .int (Int32.ofInt x2), .ref 150, .null], [.int (Int32.ofInt x2), .int (Int32.ofInt x1), .ref 0, .int 0, .ref 150], bσ ((b0, b1, b2), m9)) rfl hW hl (fun H1 locs1 ls1 hW hl => ?_)
  have hGI : GoodIn aTB (aWs aM_X11_thing) := aGoodIn aM_X11_thing jT6
  have hcw : CallW (rm1 (d' + 1)) s (([.ref 0, .int (Int32.ofInt x1), .int (Int32.ofInt x2), .ref 150] : List Value).map (aV ad)).toArray R_law RX11 7 yX11_thing cX11_thing 3 (some .int) (aWs aM_X11_thing) (rm1 d') 1 6 2 := ⟨callB_of 2 hF.2.2.2.2 hGI rfl rfl rfl (hF.2.2.2.2 _ jT4) (hF.2.2.2.2 _ jT1) (by decide +kernel) ⟨by show d' + 6 + 1 ≤ d' + 1 + 6; omega, by show 8 + (3 + 11) + 41 * (d' + 6) ≤ 41 * (d' + 1 + 6); omega⟩, hF.2.2.2.2 _ jT2, hF.2.2.2.2 _ jT3⟩
  obtain ⟨rr, hrr, hrn⟩ : ∃ rr : vw_C, vwCl[11]? = some rr ∧ rr.1 = RX11 := ⟨_, rfl, rfl⟩
  have hrec := va_recv hC.2.1 hW.1 hrr (aW_at (a := 0) (sh := .inl 11) rfl)
  rw [hrn] at hrec
  have hCm : ∀ U : State, U.heap = H1 → s.WarmedH U.vm → aCx (bX xs) aS ad cA D tys H1.size U := fun U hU hWm => by
    have := hC.moved (U := U) (locs := locs1) (by rw [hU]; exact hW.2) hWm
    rw [hU] at this
    exact this
  have hEm : ∀ U : State, U.heap = H1 → s.WarmedH U.vm → exS (aA ad aS H1.size) U := fun U hU hWm => hE.moved hWm (by rw [hU]; exact hW.2.2.1) (fun q h => h.imp id (fun h => Nat.le_trans hW.2.1 h))
  show W p l e (rm1 (d' + 1)) s m _ below meth c H1 locs1 0 0 _ (F0 m 5 ls1 [.int (Int32.ofInt x2), .int (Int32.ofInt x1), .ref (ad 0), .int 0, .ref (ad 150)])
  refine aW_thr hW.2 (vx_runV (b := ad 0) (As := [.int (Int32.ofInt x1), .int (Int32.ofInt x2)]) (rest := [.int 0, .ref (ad 150)]) hF (c_thing_throws hl0 (by omega) hx1 hx2 hm hno D ad cA tys H1.size) hcw ⟨thPre_blind, hrec, fun U hU hWm => ⟨rfl, by rw [hU]; exact hW.1, hCm U hU hWm, hEm U hU hWm⟩⟩ rfl rfl hl.1 rfl (by show 2 * 0 + (1 + (1 + 0)) ≤ 8; omega) (show decode cL_thing 5 = _ by decide +kernel) ⟨Nat.le_refl _, Nat.le_refl _⟩) ?_
  intro H2 locs2 q ce hW2 hq hcv hcl
  refine vx_catch (own := R_law) (name := nseN) (E := nseN) (ce := ce) hown [] ⟨0, 10, 13, 13⟩ [] (by rw [htab]; rfl) (fun z hz => nomatch hz) (by decide +kernel) (by decide) (hF.2.2.2.2 _ jT5) (va_Nw.use rfl (hE.2.2.1 _ (by decide +kernel))) hq hcv hcl ?_
  refine lv_astore (i := 4) (nL := 5) (lv := []) (lv' := [(4, .ref q)]) hF.1 hF.2.1 (by decide +kernel) (lv_sub (aLs_has hl) [] rfl) (by omega) rfl (fun ls3 hl3 => ?_)
  refine lv_iconst (n := 1) (v := 1) hF.1 hF.2.1 (by decide +kernel) rfl ?_
  exact W.zret (v := 1) (ty := .int) hF.1 hF.2.1 hr rfl (fun t ht hWm => ⟨rfl, by rw [ht]; exact hW2.1, hW2.2.F ht⟩) hW2.2.2.2 (by decide +kernel) hlocks
