/-! B: text, the model: a will is kept -/
section MTW
variable {xs : List Int32} {d : Nat} {Q : bPo} {b b0 b1 b2 : Bool} {m : Nat → Int → Int} {nT nH : Int} {T P E U N : Int → Int} {t s h k : Int}
theorem d_textW231 {dJ : Nat} (hJ : 251 ≤ dJ) (hQ : ∀ m', qFr (fun a k => a = 125 ∧ 0 ≤ k ∧ k < 24) m m' → (∀ k, 0 ≤ k → k < 24 → m' 125 k = m 126 k) → bGo xs dJ aM_X12_text 257 [vr 120, vn, vn, vi 0, vn] [] ((b0, b1, b2), m') Q) : bGo xs dJ aM_X12_text 231 [vr 120, vn, vn, vi 0, vn] [] ((b0, b1, b2), m) Q := by
  suffices H : ∀ (j : Nat) (x : Int) (m1 : Nat → Int → Int), x + j = 24 → 0 ≤ x → qFr (fun a k => a = 125 ∧ 0 ≤ k ∧ k < 24) m m1 → (∀ k, 0 ≤ k → k < x → m1 125 k = m 126 k) → bGo xs dJ aM_X12_text 231 [vr 120, vn, vn, vi x, vn] [] ((b0, b1, b2), m1) Q from
    H 24 0 m (by omega) (by omega) qFr.refl (fun k a b => by omega)
  intro j
  induction j with
  | zero =>
    intro x m1 hx x0 f1 h1
    exact r_X12_text_231 hJ ⟨by omega, fun _ => hQ m1 f1 (fun k a b => h1 k a (by omega)), fun h => by omega⟩
  | succ j ih =>
    intro x m1 hx x0 f1 h1
    have es : m1 126 x = m 126 x := f1 126 x (by omega)
    refine r_X12_text_231 hJ ?_
    rw [es]
    refine ⟨by omega, fun h => by omega, fun _ => ⟨by omega, by omega, ih (x + 1) _ (by omega) (by omega) (qFr_up f1 ⟨rfl, by omega, by omega⟩) ?_⟩⟩
    intro k a b
    by_cases hk : k = x
    · rw [hk, qup_s]
    · rw [qup_o (by omega)]
      exact h1 k a (by omega)
theorem d_textW257 {dJ : Nat} (hJ : 251 ≤ dJ) (hQ : ∀ m', qFr (fun a k => a = 127 ∧ 0 ≤ k ∧ k < 96) m m' → (∀ k, 0 ≤ k → k < 96 → m' 127 k = m 128 k) → bGo xs dJ aM_X12_text 283 [vr 120, vn, vn, vi 0, vn] [] ((b0, b1, b2), m') Q) : bGo xs dJ aM_X12_text 257 [vr 120, vn, vn, vi 0, vn] [] ((b0, b1, b2), m) Q := by
  suffices H : ∀ (j : Nat) (x : Int) (m1 : Nat → Int → Int), x + j = 96 → 0 ≤ x → qFr (fun a k => a = 127 ∧ 0 ≤ k ∧ k < 96) m m1 → (∀ k, 0 ≤ k → k < x → m1 127 k = m 128 k) → bGo xs dJ aM_X12_text 257 [vr 120, vn, vn, vi x, vn] [] ((b0, b1, b2), m1) Q from
    H 96 0 m (by omega) (by omega) qFr.refl (fun k a b => by omega)
  intro j
  induction j with
  | zero =>
    intro x m1 hx x0 f1 h1
    exact r_X12_text_257 hJ ⟨by omega, fun _ => hQ m1 f1 (fun k a b => h1 k a (by omega)), fun h => by omega⟩
  | succ j ih =>
    intro x m1 hx x0 f1 h1
    have es : m1 128 x = m 128 x := f1 128 x (by omega)
    refine r_X12_text_257 hJ ?_
    rw [es]
    refine ⟨by omega, fun h => by omega, fun _ => ⟨by omega, by omega, ih (x + 1) _ (by omega) (by omega) (qFr_up f1 ⟨rfl, by omega, by omega⟩) ?_⟩⟩
    intro k a b
    by_cases hk : k = x
    · rw [hk, qup_s]
    · rw [qup_o (by omega)]
      exact h1 k a (by omega)
theorem d_textW283 {dJ : Nat} (hJ : 251 ≤ dJ) (hQ : ∀ m', qFr (fun a k => a = 129 ∧ 0 ≤ k ∧ k < 36) m m' → (∀ k, 0 ≤ k → k < 36 → m' 129 k = m 130 k) → bGo xs dJ aM_X12_text 309 [vr 120, vn, vn, vi 0, vn] [] ((b0, b1, b2), m') Q) : bGo xs dJ aM_X12_text 283 [vr 120, vn, vn, vi 0, vn] [] ((b0, b1, b2), m) Q := by
  suffices H : ∀ (j : Nat) (x : Int) (m1 : Nat → Int → Int), x + j = 36 → 0 ≤ x → qFr (fun a k => a = 129 ∧ 0 ≤ k ∧ k < 36) m m1 → (∀ k, 0 ≤ k → k < x → m1 129 k = m 130 k) → bGo xs dJ aM_X12_text 283 [vr 120, vn, vn, vi x, vn] [] ((b0, b1, b2), m1) Q from
    H 36 0 m (by omega) (by omega) qFr.refl (fun k a b => by omega)
  intro j
  induction j with
  | zero =>
    intro x m1 hx x0 f1 h1
    exact r_X12_text_283 hJ ⟨by omega, fun _ => hQ m1 f1 (fun k a b => h1 k a (by omega)), fun h => by omega⟩
  | succ j ih =>
    intro x m1 hx x0 f1 h1
    have es : m1 130 x = m 130 x := f1 130 x (by omega)
    refine r_X12_text_283 hJ ?_
    rw [es]
    refine ⟨by omega, fun h => by omega, fun _ => ⟨by omega, by omega, ih (x + 1) _ (by omega) (by omega) (qFr_up f1 ⟨rfl, by omega, by omega⟩) ?_⟩⟩
    intro k a b
    by_cases hk : k = x
    · rw [hk, qup_s]
    · rw [qup_o (by omega)]
      exact h1 k a (by omega)
theorem d_textW309 {dJ : Nat} (hJ : 251 ≤ dJ) (hQ : ∀ m', qFr (fun a k => a = 131 ∧ 0 ≤ k ∧ k < 5) m m' → (∀ k, 0 ≤ k → k < 5 → m' 131 k = m 132 k) → bGo xs dJ aM_X12_text 334 [vr 120, vn, vn, vi 0, vn] [] ((b0, b1, b2), m') Q) : bGo xs dJ aM_X12_text 309 [vr 120, vn, vn, vi 0, vn] [] ((b0, b1, b2), m) Q := by
  suffices H : ∀ (j : Nat) (x : Int) (m1 : Nat → Int → Int), x + j = 5 → 0 ≤ x → qFr (fun a k => a = 131 ∧ 0 ≤ k ∧ k < 5) m m1 → (∀ k, 0 ≤ k → k < x → m1 131 k = m 132 k) → bGo xs dJ aM_X12_text 309 [vr 120, vn, vn, vi x, vn] [] ((b0, b1, b2), m1) Q from
    H 5 0 m (by omega) (by omega) qFr.refl (fun k a b => by omega)
  intro j
  induction j with
  | zero =>
    intro x m1 hx x0 f1 h1
    exact r_X12_text_309 hJ ⟨by omega, fun _ => hQ m1 f1 (fun k a b => h1 k a (by omega)), fun h => by omega⟩
  | succ j ih =>
    intro x m1 hx x0 f1 h1
    have es : m1 132 x = m 132 x := f1 132 x (by omega)
    refine r_X12_text_309 hJ ?_
    rw [es]
    refine ⟨by omega, fun h => by omega, fun _ => ⟨by omega, by omega, ih (x + 1) _ (by omega) (by omega) (qFr_up f1 ⟨rfl, by omega, by omega⟩) ?_⟩⟩
    intro k a b
    by_cases hk : k = x
    · rw [hk, qup_s]
    · rw [qup_o (by omega)]
      exact h1 k a (by omega)
theorem d_textW334 {dJ : Nat} (hJ : 251 ≤ dJ) (hQ : ∀ m', qFr (fun a k => a = 135 ∧ 0 ≤ k ∧ k < 67) m m' → (∀ k, 0 ≤ k → k < 67 → m' 135 k = 0) → bGo xs dJ aM_X12_text 355 [vr 120, vn, vn, vi 0, vn] [] ((b0, b1, b2), m') Q) : bGo xs dJ aM_X12_text 334 [vr 120, vn, vn, vi 0, vn] [] ((b0, b1, b2), m) Q := by
  suffices H : ∀ (j : Nat) (x : Int) (m1 : Nat → Int → Int), x + j = 67 → 0 ≤ x → qFr (fun a k => a = 135 ∧ 0 ≤ k ∧ k < 67) m m1 → (∀ k, 0 ≤ k → k < x → m1 135 k = 0) → bGo xs dJ aM_X12_text 334 [vr 120, vn, vn, vi x, vn] [] ((b0, b1, b2), m1) Q from
    H 67 0 m (by omega) (by omega) qFr.refl (fun k a b => by omega)
  intro j
  induction j with
  | zero =>
    intro x m1 hx x0 f1 h1
    exact r_X12_text_334 hJ ⟨by omega, fun _ => hQ m1 f1 (fun k a b => h1 k a (by omega)), fun h => by omega⟩
  | succ j ih =>
    intro x m1 hx x0 f1 h1
    refine r_X12_text_334 hJ ?_
    refine ⟨by omega, fun h => by omega, fun _ => ⟨by omega, ih (x + 1) _ (by omega) (by omega) (qFr_up f1 ⟨rfl, by omega, by omega⟩) ?_⟩⟩
    intro k a b
    by_cases hk : k = x
    · rw [hk, qup_s]
    · rw [qup_o (by omega)]
      exact h1 k a (by omega)
end MTW
