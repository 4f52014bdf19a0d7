/-! THE LAW'S HEAD: two objects and a long[1] -/
theorem bX_out (xs : List Int32) : ∀ a q, bX xs a = some q → 1000 ≤ a := by
  intro a q h
  unfold bX at h
  split at h
  · decide
  · decide
  · decide
  · decide
  · cases h
theorem aLawN : aK_law.2.1.all (aNC (aOwn aM_law)) = true := (Bool.and_eq_true_iff.mp (Bool.and_eq_true_iff.mp aLawK).2).1
theorem aLawC : aK_law.2.2.1.all (aSC aCt (aOwn aM_law)) = true := (Bool.and_eq_true_iff.mp (Bool.and_eq_true_iff.mp aLawK).2).2
theorem aLaw_ok : aCoC aM_law = true ∧ (aClC aProg (aCs aM_law) = true ∧ aStrOK (aCs aM_law) = true) := ⟨aOK_law, aOC_RL, aLawS⟩
def hlv (a b c d : Value) : List Value := [.ref 1000, a, b, c, d, .null, .null]
set_option maxRecDepth 100000 in
theorem hd_f1 : aFrA (hlv .null .null .null .null) [] (fun _ _ => .null) [] = true := by decide +kernel
set_option maxRecDepth 100000 in
theorem hd_f2 : aFrA (hlv .null .null .null .null) [.ref 0, .ref 0] (aNw (fun _ _ => .null) 0 (aDf 11)) [.inl 11] = true := by decide +kernel
set_option maxRecDepth 100000 in
theorem hd_f3 : aFrA (hlv (.ref 0) .null .null .null) [] aI0 (aS.take 120) = true := by decide +kernel
set_option maxRecDepth 100000 in
theorem hd_f4 : aFrA (hlv (.ref 0) .null .null .null) [.ref 120, .ref 120] (aNw aI0 120 (aDf 12)) (aS.take 120 ++ [.inl 12]) = true := by decide +kernel
set_option maxRecDepth 100000 in
theorem hd_f5 : aFrA (hlv (.ref 0) (.ref 120) .null .null) [.int 1] aI0 (aS.take 150) = true := by decide +kernel
set_option maxRecDepth 100000 in
theorem hd_e : aEqS (aNw aI0 150 (fun _ => aZr 3)) aI0 0 aS = true := by decide +kernel
set_option maxRecDepth 100000 in
theorem hd_s : (aS.take 150 ++ [.inr (3, 1)] = aS ∧ (aS.take 120).length = 120) ∧ ((aS.take 150).length = 150 ∧ (aNf 11 = 13 ∧ aNf 12 = 60)) := by decide +kernel
