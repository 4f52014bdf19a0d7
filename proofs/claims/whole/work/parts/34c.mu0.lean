/-! THE START'S MEMORY -/
def mu0 : bMm := ((false, true, false), fun a k => if (a = 0 ∧ k = 12) ∨ (a = 120 ∧ k = 36) then -1 else 0)
set_option maxRecDepth 100000 in
theorem mu0_ok : aEqS aI0 (bσ mu0) 0 aS = true := by decide +kernel
