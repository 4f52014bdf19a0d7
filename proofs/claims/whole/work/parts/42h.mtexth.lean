/-! B: text, the model: the heirs' skills -/
section MTH
variable {xs : List Int32} {d : Nat} {Q : bPo} {b b0 b1 b2 : Bool} {m : Nat → Int → Int} {nT nH : Int} {T P E U N : Int → Int} {t s h k : Int}
theorem d_textW470 {dJ : Nat} {n : Int} (hJ : 251 ≤ dJ) (hn : m 120 27 = n) (n0 : 0 ≤ n ∧ n ≤ 6) (hQ : ∀ m', qFr (fun a k => a = 135 ∧ 36 ≤ k ∧ k < 36 + 5 * n) m m' → (∀ h k, 0 ≤ h → h < n → 0 ≤ k → k < 5 → m' 135 (36 + 5 * h + k) = m 129 (6 * h + k)) → Q (m 120 26) ((b0, b1, b2), up (up (up (up m' 120 36 (-1)) 120 57 0) 120 38 0) 120 59 0)) : bGo xs dJ aM_X12_text 470 [vr 120, vn, vn, vi 0, vn] [] ((b0, b1, b2), m) Q := by
  suffices H : ∀ (j : Nat) (x : Int) (m1 : Nat → Int → Int), x + j = n → 0 ≤ x → qFr (fun a k => a = 135 ∧ 36 ≤ k ∧ k < 36 + 5 * n) m m1 → (∀ h k, 0 ≤ h → h < x → 0 ≤ k → k < 5 → m1 135 (36 + 5 * h + k) = m 129 (6 * h + k)) → bGo xs dJ aM_X12_text 470 [vr 120, vn, vn, vi x, vn] [] ((b0, b1, b2), m1) Q from
    H n.toNat 0 m (by omega) (by omega) qFr.refl (fun h k a b => by omega)
  intro j
  induction j with
  | zero =>
    intro x m1 hx x0 f1 h1
    have e27 : m1 120 27 = n := by rw [f1 120 27 (by omega)]; exact hn
    have e26 : m1 120 26 = m 120 26 := f1 120 26 (by omega)
    refine r_X12_text_470 hJ ?_
    rw [e27, e26]
    exact ⟨by omega, by omega, fun _ => hQ m1 f1 (fun h k a b => h1 h k a (by omega)), fun h => by omega⟩
  | succ j ih =>
    intro x m1 hx x0 f1 h1
    have e27 : m1 120 27 = n := by rw [f1 120 27 (by omega)]; exact hn
    refine r_X12_text_470 hJ ?_
    rw [e27]
    refine ⟨by omega, by omega, fun h => by omega, fun _ => ?_⟩
    suffices H2 : ∀ (i : Nat) (y : Int) (m2 : Nat → Int → Int), y + i = 5 → 0 ≤ y → qFr (fun a k => a = 135 ∧ 36 ≤ k ∧ k < 36 + 5 * n) m m2 → (∀ h k, 0 ≤ h → h < x → 0 ≤ k → k < 5 → m2 135 (36 + 5 * h + k) = m 129 (6 * h + k)) → (∀ k, 0 ≤ k → k < y → m2 135 (36 + 5 * x + k) = m 129 (6 * x + k)) → bGo xs dJ aM_X12_text 481 [vr 120, vn, vn, vi x, vi y] [] ((b0, b1, b2), m2) Q from
      H2 5 0 m1 (by omega) (by omega) f1 h1 (fun k a b => by omega)
    intro i
    induction i with
    | zero =>
      intro y m2 hy y0 f2 h2 h3
      refine r_X12_text_481 hJ ⟨by omega, fun _ => ih (x + 1) m2 (by omega) (by omega) f2 ?_, fun h => by omega⟩
      intro h k a b c d
      by_cases hh : h = x
      · rw [hh]; exact h3 k c (by omega)
      · exact h2 h k a (by omega) c d
    | succ i ih2 =>
      intro y m2 hy y0 f2 h2 h3
      have e129 : m2 129 (6 * x + y) = m 129 (6 * x + y) := f2 129 _ (by omega)
      refine r_X12_text_481 hJ ?_
      rw [e129]
      refine ⟨by omega, fun h => by omega, fun _ => ⟨by omega, by omega, ih2 (y + 1) _ (by omega) (by omega) (qFr_up f2 ⟨rfl, by omega, by omega⟩) ?_ ?_⟩⟩
      · intro h k a b c d
        rw [qup_o (by omega)]
        exact h2 h k a b c d
      · intro k a b
        by_cases hk : k = y
        · rw [hk, qup_s]
        · rw [qup_o (by omega)]
          exact h3 k a (by omega)
end MTH
