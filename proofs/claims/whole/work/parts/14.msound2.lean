/-! SOUNDNESS of the making machine, its runs -/
def aNC (own : String) (q : Nat × Nat × Nat × Nat × Nat) : Bool := match vwCl[q.2.1]? with
  | some r => aWd q.2.2.1 (.classLink own q.1 r.1) && (aWd q.2.2.2.1 (.instantiable r.1 r.2.2) && aWd q.2.2.2.2 (.initialized r.1))
  | none => false
def aSC (Cs : List aMk) (own : String) (q : Nat × Nat × Nat × Nat × Nat × Nat × Nat) : Bool := match q.2.1 with
  | 0 => aWd q.2.2.2.2.1 (.methodLink own q.1 objectInit) && (aWd q.2.2.2.2.2.1 (.instanceMethod objectInit) && aWd q.2.2.2.2.2.2 (.code objectInit ⟨#[0xb1]⟩ 1 none))
  | kd + 1 => match Cs[q.2.2.1]? with
    | some M => (decide ((aY M.1).cls ≠ "java/lang/invoke/MethodHandle") && (decide ((aY M.1).cls ≠ "java/lang/invoke/VarHandle") && decide ((parseMethodDescriptor (aY M.1).desc).map (fun d => d.parameters.length) = some q.2.2.2.1))) && ((aWd q.2.2.2.2.2.1 (.instanceMethod (aY M.1)) && aWd q.2.2.2.2.2.2 (.initialized (aY M.1).cls)) && (match kd with
      | 0 => aWd q.2.2.2.2.1 (.methodLink own q.1 (aY M.1))
      | _ => decide (Cond.methodLinkNest own q.1 (aY M.1) "HalfDone" ∈ aNestM)))
    | none => false
def aUC (own : String) (q : Nat × Nat) : Bool := aWd q.2 (.classLink own q.1 "[[I")
def aMkC (Cs : List aMk) (M : aMk) : Bool := (M.2.1.all (aNC (aOwn M.1)) && (M.2.2.1.all (aSC Cs (aOwn M.1)) && M.2.2.2.all (aUC (aOwn M.1)))) && (aCoC M.1 && aStrOK (aCs M.1))
def aCtC (M : aMk) : Bool := aMC M.1 && (decide ((aY M.1).name = "<init>") && decide (aRt M.1 = none))
set_option maxRecDepth 100000 in
theorem aOT_0 : aMkC aCt aK_X0_init = true := by decide +kernel
set_option maxRecDepth 100000 in
theorem aOU_0 : aCtC aK_X0_init = true := by decide +kernel
set_option maxRecDepth 100000 in
theorem aOT_1 : aMkC aCt aK_X1_init = true := by decide +kernel
set_option maxRecDepth 100000 in
theorem aOU_1 : aCtC aK_X1_init = true := by decide +kernel
set_option maxRecDepth 100000 in
theorem aOT_2 : aMkC aCt aK_X2_init = true := by decide +kernel
set_option maxRecDepth 100000 in
theorem aOU_2 : aCtC aK_X2_init = true := by decide +kernel
set_option maxRecDepth 100000 in
theorem aOT_3 : aMkC aCt aK_X3_init = true := by decide +kernel
set_option maxRecDepth 100000 in
theorem aOU_3 : aCtC aK_X3_init = true := by decide +kernel
set_option maxRecDepth 100000 in
theorem aOT_4 : aMkC aCt aK_X4_init = true := by decide +kernel
set_option maxRecDepth 100000 in
theorem aOU_4 : aCtC aK_X4_init = true := by decide +kernel
set_option maxRecDepth 100000 in
theorem aOT_5 : aMkC aCt aK_X5_init = true := by decide +kernel
set_option maxRecDepth 100000 in
theorem aOU_5 : aCtC aK_X5_init = true := by decide +kernel
set_option maxRecDepth 100000 in
theorem aOT_6 : aMkC aCt aK_X6_init = true := by decide +kernel
set_option maxRecDepth 100000 in
theorem aOU_6 : aCtC aK_X6_init = true := by decide +kernel
set_option maxRecDepth 100000 in
theorem aOT_7 : aMkC aCt aK_X7_init = true := by decide +kernel
set_option maxRecDepth 100000 in
theorem aOU_7 : aCtC aK_X7_init = true := by decide +kernel
set_option maxRecDepth 100000 in
theorem aOT_8 : aMkC aCt aK_X8_init = true := by decide +kernel
set_option maxRecDepth 100000 in
theorem aOU_8 : aCtC aK_X8_init = true := by decide +kernel
set_option maxRecDepth 100000 in
theorem aOT_9 : aMkC aCt aK_X9_init = true := by decide +kernel
set_option maxRecDepth 100000 in
theorem aOU_9 : aCtC aK_X9_init = true := by decide +kernel
set_option maxRecDepth 100000 in
theorem aOT_10 : aMkC aCt aK_X10_init = true := by decide +kernel
set_option maxRecDepth 100000 in
theorem aOU_10 : aCtC aK_X10_init = true := by decide +kernel
set_option maxRecDepth 100000 in
theorem aOT_11 : aMkC aCt aK_X11_init = true := by decide +kernel
set_option maxRecDepth 100000 in
theorem aOU_11 : aCtC aK_X11_init = true := by decide +kernel
set_option maxRecDepth 100000 in
theorem aOT_12 : aMkC aCt aK_X12_init = true := by decide +kernel
set_option maxRecDepth 100000 in
theorem aOU_12 : aCtC aK_X12_init = true := by decide +kernel
theorem aCt_ok : ∀ M ∈ aCt, aMkC aCt M = true ∧ aCtC M = true ∧ aClC aProg (aCs M.1) = true := List.forall_mem_cons.mpr ⟨⟨aOT_0, aOU_0, aOC_RX0⟩, List.forall_mem_cons.mpr ⟨⟨aOT_1, aOU_1, aOC_RX1⟩, List.forall_mem_cons.mpr ⟨⟨aOT_2, aOU_2, aOC_RX2⟩, List.forall_mem_cons.mpr ⟨⟨aOT_3, aOU_3, aOC_RX3⟩, List.forall_mem_cons.mpr ⟨⟨aOT_4, aOU_4, aOC_RX4⟩, List.forall_mem_cons.mpr ⟨⟨aOT_5, aOU_5, aOC_RX5⟩, List.forall_mem_cons.mpr ⟨⟨aOT_6, aOU_6, aOC_RX6⟩, List.forall_mem_cons.mpr ⟨⟨aOT_7, aOU_7, aOC_RX7⟩, List.forall_mem_cons.mpr ⟨⟨aOT_8, aOU_8, aOC_RX8⟩, List.forall_mem_cons.mpr ⟨⟨aOT_9, aOU_9, aOC_RX9⟩, List.forall_mem_cons.mpr ⟨⟨aOT_10, aOU_10, aOC_RX10⟩, List.forall_mem_cons.mpr ⟨⟨aOT_11, aOU_11, aOC_RX11⟩, List.forall_mem_cons.mpr ⟨⟨aOT_12, aOU_12, aOC_RX12⟩, fun _ h => absurd h List.not_mem_nil⟩⟩⟩⟩⟩⟩⟩⟩⟩⟩⟩⟩⟩
