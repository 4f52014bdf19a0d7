/-! B: text, the model: a law is kept, a beginning is kept -/
set_option maxRecDepth 100000 in
theorem qNarF : ∀ c : Fin 256, bNar 1 (qsb (c.val : Int)) = qsb (c.val : Int) := by decide
theorem qNarb {c : Int} (h : 0 ≤ c ∧ c ≤ 255) : bNar 1 (qsb c) = qsb c := by
  have := qNarF ⟨c.toNat, by omega⟩
  dsimp only at this
  rw [show ((c.toNat : Nat) : Int) = c by omega] at this
  exact this
section MTX
variable {xs : List Int32} {d : Nat} {Q : bPo} {b b0 b1 b2 : Bool} {m : Nat → Int → Int} {nT nH : Int} {T P E U N : Int → Int} {t s h k : Int}
variable {B : Int → Int} {L n : Int}
theorem d_textL {dJ : Nat} (hJ : 251 ≤ dJ) (ht : qTp L B) (hn : m 120 7 = n) (n0 : 0 ≤ n ∧ n < 6) (hm : ∀ k, 0 ≤ k → k < L → m 121 k = qsb (B k)) (hQ : ∀ m', qFr (fun a k => (a = 122 ∧ 240 * n ≤ k ∧ k < 240 * n + 240) ∨ (a = 123 ∧ k = n) ∨ (a = 120 ∧ k = 7)) m m' → m' 120 7 = n + 1 → m' 123 n = L → (∀ k, 0 ≤ k → k < L → m' 122 (240 * n + k) = qsb (B k)) → Q n ((b0, b1, b2), m')) : bGo xs dJ aM_X12_text 72 [vr 120, vn, vi L, vi 0, vn] [] ((b0, b1, b2), m) Q := by
  have hb := ht.1
  suffices H : ∀ (j : Nat) (x : Int) (m1 : Nat → Int → Int), x + j = L → 0 ≤ x → qFr (fun a k => a = 122 ∧ 240 * n ≤ k ∧ k < 240 * n + 240) m m1 → (∀ k, 0 ≤ k → k < x → m1 122 (240 * n + k) = qsb (B k)) → bGo xs dJ aM_X12_text 72 [vr 120, vn, vi L, vi x, vn] [] ((b0, b1, b2), m1) Q from
    H L.toNat 0 m (by omega) (by omega) qFr.refl (fun k a b => by omega)
  intro j
  induction j with
  | zero =>
    intro x m1 hx x0 f1 h1
    have e7 : m1 120 7 = n := by rw [f1 120 7 (by omega)]; exact hn
    refine r_X12_text_72 hJ ?_
    rw [e7, show n + 1 - 1 = n by omega]
    refine ⟨by omega, by omega, fun _ => ⟨n0, hQ _ (qFr_up (qFr_up (f1.mono (fun a k h => Or.inl h)) (Or.inr (Or.inl ⟨rfl, rfl⟩))) (Or.inr (Or.inr ⟨rfl, rfl⟩))) qup_s ?_ ?_⟩, fun h => by omega⟩
    · rw [qup_n (by omega), qup_s]
    · intro k a b
      rw [qup_n (by omega), qup_n (by omega)]
      exact h1 k a (by omega)
  | succ j ih =>
    intro x m1 hx x0 f1 h1
    have e7 : m1 120 7 = n := by rw [f1 120 7 (by omega)]; exact hn
    have e121 : m1 121 x = qsb (B x) := by rw [f1 121 x (by omega)]; exact hm x x0 (by omega)
    have hbx := ht.2 x x0 (by omega)
    refine r_X12_text_72 hJ ?_
    rw [e7, e121, qNarb (by omega)]
    refine ⟨by omega, by omega, fun h => by omega, fun _ => ⟨by omega, by omega, ih (x + 1) _ (by omega) (by omega) (qFr_up f1 ⟨rfl, by omega, by omega⟩) ?_⟩⟩
    intro k a b
    by_cases hk : k = x
    · rw [hk, qup_s]
    · rw [qup_o (by omega)]
      exact h1 k a (by omega)
theorem d_textB {dJ : Nat} (hJ : 251 ≤ dJ) (hn : m 120 34 = n) (n0 : 0 ≤ n ∧ n < 4) (hQ : ∀ m', qFr (fun a k => (a = 133 ∧ 12 * n ≤ k ∧ k < 12 * n + 12) ∨ (a = 134 ∧ k = n) ∨ (a = 120 ∧ k = 34)) m m' → m' 120 34 = n + 1 → m' 134 n = m 134 4 → (∀ k, 0 ≤ k → k < 12 → m' 133 (12 * n + k) = m 133 (48 + k)) → Q n ((b0, b1, b2), m')) : bGo xs dJ aM_X12_text 138 [vr 120, vn, vn, vi 0, vn] [] ((b0, b1, b2), m) Q := by
  suffices H : ∀ (j : Nat) (x : Int) (m1 : Nat → Int → Int), x + j = 12 → 0 ≤ x → qFr (fun a k => a = 133 ∧ 12 * n ≤ k ∧ k < 12 * n + 12) m m1 → (∀ k, 0 ≤ k → k < x → m1 133 (12 * n + k) = m 133 (48 + k)) → bGo xs dJ aM_X12_text 138 [vr 120, vn, vn, vi x, vn] [] ((b0, b1, b2), m1) Q from
    H 12 0 m (by omega) (by omega) qFr.refl (fun k a b => by omega)
  intro j
  induction j with
  | zero =>
    intro x m1 hx x0 f1 h1
    have e7 : m1 120 34 = n := by rw [f1 120 34 (by omega)]; exact hn
    have e4 : m1 134 4 = m 134 4 := f1 134 4 (by omega)
    refine r_X12_text_138 hJ ?_
    rw [e7, e4, show n + 1 - 1 = n by omega]
    refine ⟨by omega, fun _ => ⟨by omega, hQ _ (qFr_up (qFr_up (f1.mono (fun a k h => Or.inl h)) (Or.inr (Or.inl ⟨rfl, rfl⟩))) (Or.inr (Or.inr ⟨rfl, rfl⟩))) qup_s ?_ ?_⟩, fun h => by omega⟩
    · rw [qup_n (by omega), qup_s]
    · intro k a b
      rw [qup_n (by omega), qup_n (by omega)]
      exact h1 k a (by omega)
  | succ j ih =>
    intro x m1 hx x0 f1 h1
    have e7 : m1 120 34 = n := by rw [f1 120 34 (by omega)]; exact hn
    have e133 : m1 133 (48 + x) = m 133 (48 + x) := f1 133 _ (by omega)
    refine r_X12_text_138 hJ ?_
    rw [e7, e133]
    refine ⟨by omega, fun h => by omega, fun _ => ⟨by omega, by omega, ih (x + 1) _ (by omega) (by omega) (qFr_up f1 ⟨rfl, by omega, by omega⟩) ?_⟩⟩
    intro k a b
    by_cases hk : k = x
    · rw [hk, qup_s]
    · rw [qup_o (by omega)]
      exact h1 k a (by omega)
end MTX
