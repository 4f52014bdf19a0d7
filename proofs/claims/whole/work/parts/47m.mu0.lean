/-! A NEW OBJECT -/
def qD0 : qD := (0, 0, fun _ => 0, fun _ => 0, fun _ => 0, fun _ => 0, fun _ => 0, 0, 0, fun _ _ => 0, 0, fun _ => 0, fun _ => 0, fun _ => 0, 0, fun _ => 0, fun _ => 0, 0, fun _ _ => 0, fun _ => 0, 0, fun _ => 0, -1, 0, fun _ => 0)
theorem qno0 {P : Int → Prop} : ∀ t : Int, 0 ≤ t → t < 0 → P t := fun t t0 t1 => absurd t1 (by omega)
theorem mu0_c {a : Nat} {k : Int} (h : ¬ (a = 0 ∧ k = 12)) (h2 : ¬ (a = 120 ∧ k = 36)) : mu0.2 a k = 0 := by
  show (if (a = 0 ∧ k = 12) ∨ (a = 120 ∧ k = 36) then -1 else 0) = (0 : Int)
  rw [if_neg (by omega)]
theorem mu0_a {a : Nat} (h : a ≠ 0) (h2 : a ≠ 120) : mu0.2 a = fun _ => 0 := funext fun k => mu0_c (by omega) (by omega)
theorem mu0_P : qIP qD0 := by
  refine ⟨⟨⟨?_, ?_, ?_⟩, fun t t0 t1 => ?_, fun t s t0 t1 => ?_, fun h h0 h1 => ?_, fun k k0 k1 => ?_, fun t t0 t1 => ?_, fun h k h0 h1 => ?_, ?_⟩, ⟨?_, fun k k0 k1 => ?_⟩, ⟨?_, fun k k0 k1 => ?_⟩, ⟨?_, fun k k0 k1 => ?_⟩, ⟨?_, fun k k0 k1 => ?_⟩, ?_, Or.inl rfl⟩
  · show (0 : Int) ≤ 0 ∧ (0 : Int) ≤ 6; omega
  · show (0 : Int) ≤ 0 ∧ (0 : Int) ≤ 6; omega
  · exact Iff.rfl
  · have t1 : t < 0 := t1; omega
  · have t1 : t < 0 := t1; omega
  · have h1 : h < 0 := h1; omega
  · show (0 : Int) ≤ 0 ∧ (0 : Int) ≤ 4; omega
  · have t1 : t < 0 := t1; omega
  · have h1 : h < 0 := h1; omega
  · show (0 : Int) ≤ 0 ∧ (0 : Int) ≤ 999; omega
  · show (0 : Int) ≤ 0 ∧ (0 : Int) ≤ 240; omega
  · have k1 : k < 0 := k1; omega
  · show (0 : Int) ≤ 0 ∧ (0 : Int) ≤ 12; omega
  · have k1 : k < 0 := k1; omega
  · show (0 : Int) ≤ 0 ∧ (0 : Int) ≤ 4; omega
  · have k1 : k < 0 := k1; omega
  · show (0 : Int) ≤ 0 ∧ (0 : Int) ≤ 6; omega
  · have k1 : k < 0 := k1; omega
  · show (-1 : Int) ≤ -1 ∧ (-1 : Int) < 0; omega
theorem mu0_C : qIC qD0 false true mu0.2 := by
  refine ⟨rfl, ⟨⟨⟨mu0_c (by decide) (by decide), mu0_c (by decide) (by decide)⟩, fun t t0 t1 => ?_, fun t s t0 t1 => ?_, fun h h0 h1 => ?_, fun k k0 k1 => ?_⟩, fun t t0 t1 => ?_, fun h k h0 h1 => ?_, mu0_c (by decide) (by decide)⟩, mu0_c (by decide) (by decide), ⟨mu0_c (by decide) (by decide), fun k k0 k1 => ?_⟩, ⟨mu0_c (by decide) (by decide), ?_, ?_, fun k k0 k1 => ?_⟩, ⟨mu0_c (by decide) (by decide), fun h => ?_⟩, ⟨mu0_c (by decide) (by decide), fun k k0 k1 => ?_⟩, ⟨mu0_c (by decide) (by decide), fun k k0 k1 => ?_⟩, ⟨mu0_c (by decide) (by decide), fun k k0 k1 => ?_⟩, rfl⟩
  · have t1 : t < 0 := t1; omega
  · have t1 : t < 0 := t1; omega
  · have h1 : h < 0 := h1; omega
  · exact congrFun (mu0_a (by decide) (by decide)) k
  · have t1 : t < 0 := t1; omega
  · have h1 : h < 0 := h1; omega
  · have k1 : k < 0 := k1; omega
  · rw [mu0_c (by decide) (by decide)]; omega
  · show (0 : Int) ≤ 0 ∧ (0 : Int) ≤ 40; omega
  · have k1 : k < 0 := k1; omega
  · have h : (0 : Int) = 1 := h; omega
  · have k1 : k < 0 := k1; omega
  · have k1 : k < 0 := k1; omega
  · have k1 : k < 0 := k1; omega
theorem mu0_M : qIM qD0 mu0.2 := by
  refine ⟨⟨mu0_c (by decide) (by decide), mu0_c (by decide) (by decide), mu0_a (by decide) (by decide), mu0_a (by decide) (by decide), mu0_a (by decide) (by decide), mu0_a (by decide) (by decide), mu0_a (by decide) (by decide)⟩, mu0_c (by decide) (by decide), ⟨mu0_c (by decide) (by decide), fun k k0 k1 => ?_⟩, ⟨mu0_c (by decide) (by decide), fun j i k0 k1 => ?_⟩, ⟨mu0_c (by decide) (by decide), mu0_a (by decide) (by decide)⟩, ⟨mu0_c (by decide) (by decide), mu0_a (by decide) (by decide), mu0_a (by decide) (by decide), mu0_a (by decide) (by decide)⟩, ⟨mu0_c (by decide) (by decide), fun k k0 k1 => ?_⟩, ⟨mu0_c (by decide) (by decide), fun k k0 k1 => ?_⟩, rfl, fun k => ?_, fun g g0 g1 => ?_⟩
  · have k1 : k < 0 := k1; omega
  · have k1 : j < 0 := k1; omega
  · have k1 : k < 0 := k1; omega
  · have k1 : k < 0 := k1; omega
  · rw [mu0_a (by decide) (by decide)]
    show -1000000 ≤ (0 : Int) ∧ (0 : Int) ≤ 1000000
    omega
  · rw [mu0_a (by decide) (by decide)]
theorem mu0_INV : qINV mu0 := ⟨qD0, mu0_P, mu0_C, mu0_M⟩
