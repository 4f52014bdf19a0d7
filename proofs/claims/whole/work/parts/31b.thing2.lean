/-! HalfDone.thing: its contract, where it throws -/
theorem oMet {X : aXt} {S : List aSh} {l : Launch} {f d : Nat} {M : aM} {as : List Value} {σ : aSt} {v : Option Value} {σ' : aSt} (hM : aMC M = true ∧ aCoC M = true ∧ (aClC aProg (aCs M) = true ∧ aStrOK (aCs M) = true)) (hO : oOk X S aProg l) (hble : (aArg as).length ≤ aML M) (hex : oExec X S aProg f d M 0 (aEnt M as) [] σ = some (v, σ')) : aMet X S l d M as σ v σ' := by
  intro D ad cA tys sz
  have hpl : plainName (aY M).cls = true ∧ (aY M).cls = aOwn M := by
    have := hM.1
    simp only [aMC, Bool.and_eq_true, decide_eq_true_eq] at this
    exact this.1.2
  refine Met.ofW (cc := aBy M) (maxL := aML M) (ret := aRt M) hpl.1 rfl ?_
  intro p e s m args below meth c s₁ B hml hv
  obtain ⟨rfl, hP, hC⟩ := hv
  have hts := atoms_spec (ws := aWs M) B.pre
  have hown : s.vm.findClass (aOwn M) = some m.cls := by
    rw [← hpl.2]
    exact findClass_of_methodNamed B.named
  have hsz := hC.1
  subst hsz
  have hent := lv_entry (as.map (aV ad)) (n := aML M) (by rw [aArg_len]; exact hble)
  rw [lg_entry_eq]
  exact oSound X S aProg aG2 l hO f d M 0 (aEnt M as) [] σ v σ' hex hM.2.1 hM.2.2 (cells := 0) (slots := 0) ⟨B.exec, B.bytes, hml, hown, fun w hw => hts w (List.mem_cons_of_mem _ hw)⟩ B.returns B.notSynchronized hC ⟨Nat.le_refl _, Nat.le_refl _, Nat.le_refl _, Nat.le_refl _⟩ ⟨hP, va_S.rf⟩ (aLs_ent hble hent)
/-- a contract out of a pure run -/
theorem bMet {xs : List Int32} {l : Launch} {d : Nat} {M : aM} {as : List bV} {μ : bMm} {Q : bPo} (hM : aMC M = true ∧ aCoC M = true ∧ (aClC aProg (aCs M) = true ∧ aStrOK (aCs M) = true)) (hble : (bArg as).length ≤ aML M) (h : bGo xs d M 0 (bEnt M as) [] μ Q) : ∃ (v : Option Value) (z : Int) (μ' : bMm), aMet (bX xs) aS l d M (as.map bVal) (bσ μ) v (bσ μ') ∧ bRes M v z ∧ Q z μ' := by
  obtain ⟨f, v, z, μ', e, hr, hq⟩ := h
  refine ⟨v, z, μ', oMet hM oOk_all (by rw [bArg_val, List.length_map]; exact hble) (f := f) ?_, hr, hq⟩
  rw [bEnt_val]
  exact e
def nseN : String := "java/util/NoSuchElementException"
def nseL : List Cond := nseAt RX11 150 nseN "java/lang/RuntimeException" 13 prog_30_method_4_code ["java/lang/Exception"]
def nseB : List Cond := [.declares (Bundle.initS "java/lang/RuntimeException"), .declares (Bundle.initS "java/lang/Exception"), .declares (Bundle.initS Bundle.tN), .castable nseN nseN]
theorem nse_ot : (Cond.classLink RX11 146 nseN :: Cond.initialized nseN :: nseL.filter vx_no).all vx_ot = true := by decide +kernel
theorem nse_good : ((nseL.filter vx_no).filter goodWord).all (fun w => decide (w ∈ lw_tbl)) = true := by decide +kernel
theorem nse_bad : ((nseL.filter vx_no).filter (fun w => !goodWord w)).all (fun w => decide (w ∈ nseB)) = true := by decide +kernel
theorem nse_in {w : Cond} (h : w ∈ (nseL.filter vx_no).filter goodWord) : w ∈ aTB := by
  have := List.all_eq_true.mp nse_good w h
  exact List.mem_filter.mpr ⟨of_decide_eq_true this, (List.mem_filter.mp h).2⟩
theorem nse_k : Cond.classLink RX11 146 nseN ∈ aTB := jw 1276 _ (by decide +kernel)
theorem nse_i : Cond.initialized nseN ∈ aTB := jw 138 _ (by decide +kernel)
/-- what throwing asks of the surroundings -/
def exS (A : Nat → Prop) (U : State) : Prop := vx_Zq Bundle.tN "UNASSIGNED_STACK" Bundle.steD A U U.heap ∧ vx_Zq Bundle.tN "SUPPRESSED_SENTINEL" Bundle.listD A U U.heap ∧ (∀ w ∈ nseB, va_Nw w U) ∧ (∃ sa, vk_R RX11 148 "no such thing" sa U) ∧ (∃ sb, vk_R RX11 165 "no such what" sb U)
theorem exS.moved {A B : Nat → Prop} {u U : State} (h : exS A u) (hW : u.WarmedH U.vm) (hq : ∀ a : Nat, a < u.heap.size → ¬ A a → U.heap[a]? = u.heap[a]?) (hAB : ∀ q, B q → A q) : exS B U := by
  obtain ⟨h1, h2, h3, ⟨sa, h4⟩, ⟨sb, h5⟩⟩ := h
  refine ⟨((vx_Zq.moved hW.alike h1).kept hq).narrow hAB, ((vx_Zq.moved hW.alike h2).kept hq).narrow hAB, fun w hw => ?_, ⟨sa, vk_R.warm hW h4⟩, ⟨sb, vk_R.warm hW h5⟩⟩
  have := h3 w hw
  simp only [nseB, List.mem_cons, List.not_mem_nil, or_false] at hw
  rcases hw with rfl | rfl | rfl | rfl
  · exact va_Nw.warmD hW this
  · exact va_Nw.warmD hW this
  · exact va_Nw.warmD hW this
  · exact va_Nw.warmC hW this
theorem exS.blind {A : Nat → Prop} {U V : State} (hh : V.heap = U.heap) (hv : V.vm = U.vm) (h : exS A U) : exS A V := by
  have ha : U.vm.Alike V.vm := by rw [hv]; exact Vm.Alike.refl U.vm
  obtain ⟨h1, h2, h3, ⟨sa, h4⟩, ⟨sb, h5⟩⟩ := h
  refine ⟨by rw [hh]; exact vx_Zq.moved ha h1, by rw [hh]; exact vx_Zq.moved ha h2, fun w hw => ?_, ⟨sa, vk_R.same hv h4⟩, ⟨sb, vk_R.same hv h5⟩⟩
  have := h3 w hw
  simp only [nseB, List.mem_cons, List.not_mem_nil, or_false] at hw
  rcases hw with rfl | rfl | rfl | rfl <;> exact va_Nw.same rfl hv.symm this
def rm1 (d : Nat) : Room := { frames := d + 6, cells := 1, slots := 6, locals := 41 * (d + 6) }
def thPre (X : aXt) (S : List aSh) (ad : Nat → Nat) (cA : Nat → ClassId) (D : va_G) (tys : List (ClassId × FieldType)) (sz : Nat) (as : List Value) (σ : aSt) : Array Value → State → Prop :=
  va_Pc (as.map (aV ad)) (fun U => va_P D vwCl (aW ad cA S σ) U.heap ∧ aCx X S ad cA D tys sz U ∧ exS (aA ad S sz) U)
theorem thPre_blind {X : aXt} {S : List aSh} {ad : Nat → Nat} {cA : Nat → ClassId} {D : va_G} {tys : List (ClassId × FieldType)} {sz : Nat} {as : List Value} {σ : aSt} : FrameBlind (thPre X S ad cA D tys sz as σ) := by
  intro a U g mk q
  obtain ⟨q1, q2, q3, q4⟩ := q
  exact ⟨q1, q2, aCx.blind (U := U) rfl rfl q3, exS.blind (U := U) rfl rfl q4⟩
def thXC (S : List aSh) (ad : Nat → Nat) (cA : Nat → ClassId) (D : va_G) (σ : aSt) (A : Nat → Prop) : String → State → State → Prop := fun E st t => E = nseN ∧ va_P D vwCl (aW ad cA S σ) t.heap ∧ va_F A st t
def thMet (X : aXt) (S : List aSh) (l : Launch) (d : Nat) (as : List Value) (σ : aSt) : Prop :=
  ∀ (D : va_G) (ad : Nat → Nat) (cA : Nat → ClassId) (tys : List (ClassId × FieldType)) (sz : Nat), vx_Met l yX11_thing (aWs aM_X11_thing) (rm1 d) (thPre X S ad cA D tys sz as σ) (fun _ _ _ _ => False) (thXC S ad cA D σ (aA ad S sz)) 1 6 (aA ad S sz)
theorem aT_ok : aMC aM_X11_thing = true ∧ aCoC aM_X11_thing = true ∧ (aClC aProg (aCs aM_X11_thing) = true ∧ aStrOK (aCs aM_X11_thing) = true) := ⟨aT_ok1, aT_ok2, (jok_at 127 (M := aM_X11_feed) rfl).2.2⟩
section TH
variable {p : Program} {l : Launch} {e : Env} {R : Room} {s : State} {m : MethodId} {args : Array Value} {below : List Frame} {meth : Method} {c : Code} {H : Heap} {locs : List Loc}
variable {X : aXt} {S : List aSh} {ad : Nat → Nat} {cA : Nat → ClassId} {D : va_G} {tys : List (ClassId × FieldType)} {pc : Nat} {σ : aSt} {ls : Array Slot}
/-- the throw itself -/
theorem th_throw {is : Nat} {text : String} (hl0 : l.stackTraces = false) (hF : aFx aM_X11_thing p s m c args) (hlocks : meth.locks = false) (htab : ∀ x ∈ c.exceptionTable.toList, False) (hC : aCx X S ad cA D tys s.heap.size s) (hE : exS (aA ad S s.heap.size) s) (hstr : ∃ sa, vk_R RX11 is text sa s)
    (hRf : 6 ≤ R.frames) (hRl : 100 ≤ R.locals) (hRc : 1 ≤ R.cells) (hRs : 6 ≤ R.slots) (hW : aWo S ad cA D s σ H locs) (hsz : ls.size = 3)
    (d0 : decode cX11_thing pc = .ok (.new 146, 3)) (d3 : decode cX11_thing (pc + 3) = .ok (.dup, 1)) (d4 : decode cX11_thing (pc + 4) = .ok (.ldc is, 2)) (d6 : decode cX11_thing (pc + 6) = .ok (.invokespecial 150, 3)) (d9 : decode cX11_thing (pc + 9) = .ok (.athrow, 1)) :
    W p l e R s m args below meth c H locs 0 0 (vx_MQ below (fun _ _ _ _ => False) (thXC S ad cA D σ (aA ad S s.heap.size)) args s 1 6 (aA ad S s.heap.size)) (F0 m pc ls []) := by
  obtain ⟨hx, hb, hml, hown, hts⟩ := hF
  obtain ⟨hU, hN, hB, -, -⟩ := hE
  obtain ⟨sa, hstr⟩ := hstr
  have hall := List.all_eq_true.mp nse_ot
  refine nse_throwS (own := RX11) (cls := nseN) (Y9 := "java/lang/RuntimeException") (names := ["java/lang/Exception"]) (ix := 13) (bytes := prog_30_method_4_code) (ic := 150) (ik := 146) hx hb hl0 hown (by decide +kernel) (by decide +kernel) (by decide +kernel) (by decide +kernel) (by decide +kernel) (by decide +kernel) (by decide +kernel) (hts _ nse_k) (hts _ nse_i) hstr ?_ (fun w hw => hall w hw) hU hN hW.2 (by rw [hml, hsz]; rfl) d0 d3 d4 d6 d9 (fun x hx => (htab x hx).elim) (by show 1 + 4 < _; omega) (by show 0 + _ ≤ _; simp only [List.length_cons, List.length_nil]; omega) (by omega) (by omega) hlocks ?_ hW.2.2.2 (Nat.le_refl _) (Nat.le_refl _)
  · exact vx_hat (B := nseB) (fun w hw => hts _ (nse_in hw)) (fun w hw => of_decide_eq_true (List.all_eq_true.mp nse_bad w hw)) (fun w hw => va_Nw.use (by simp only [nseB, List.mem_cons, List.not_mem_nil, or_false] at hw; rcases hw with rfl | rfl | rfl | rfl <;> rfl) (hB w hw))
  · intro t hal hsz1 hk
    refine ⟨rfl, hW.1.kept (fun k9 x hx => hk x.1 ((hW.1 k9 x hx).lt)), ?_⟩
    exact ⟨Nat.le_trans hW.2.1 hsz1, fun q h1 h2 => (hk q (Nat.lt_of_lt_of_le h1 hW.2.1)).trans (hW.2.2.1 q h1 h2)⟩
end TH
