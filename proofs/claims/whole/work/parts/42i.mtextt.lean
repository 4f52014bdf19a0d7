/-! B: text, the model: the things' beginnings -/
def qW0 (T : Int → Int) (t : Int) (N : Int → Int) : Prop := N (6 * t) = T (4 * t + 2) ∧ N (6 * t + 1) = -1 ∧ N (6 * t + 2) = (if T (4 * t + 3) ≤ T (4 * t + 2) then 1 else 0) ∧ N (6 * t + 3) = 0 ∧ N (6 * t + 4) = (if T (4 * t + 3) ≤ T (4 * t + 2) then 0 else -1) ∧ N (6 * t + 5) = -1
section MTT
variable {xs : List Int32} {d : Nat} {Q : bPo} {b b0 b1 b2 : Bool} {m : Nat → Int → Int} {nT nH : Int} {T P E U N : Int → Int} {t s h k : Int}
theorem d_textW355 {dJ : Nat} {n : Int} (hJ : 251 ≤ dJ) (hn : m 120 26 = n) (n0 : 0 ≤ n ∧ n ≤ 6) (hT : ∀ t, 0 ≤ t → t < n → inR (m 125 (4 * t + 2)) ∧ inR (m 125 (4 * t + 3))) (hz : ∀ k, 0 ≤ k → k < 67 → m 135 k = 0) (hQ : ∀ m', qFr (fun a k => a = 135 ∧ 0 ≤ k ∧ k < 6 * n) m m' → (∀ t, 0 ≤ t → t < n → qW0 (m 125) t (m' 135)) → bGo xs dJ aM_X12_text 470 [vr 120, vn, vn, vi 0, vn] [] ((b0, b1, b2), m') Q) : bGo xs dJ aM_X12_text 355 [vr 120, vn, vn, vi 0, vn] [] ((b0, b1, b2), m) Q := by
  suffices H : ∀ (j : Nat) (x : Int) (m1 : Nat → Int → Int), x + j = n → 0 ≤ x → qFr (fun a k => a = 135 ∧ 0 ≤ k ∧ k < 6 * x) m m1 → (∀ t, 0 ≤ t → t < x → qW0 (m 125) t (m1 135)) → bGo xs dJ aM_X12_text 355 [vr 120, vn, vn, vi x, vn] [] ((b0, b1, b2), m1) Q from
    H n.toNat 0 m (by omega) (by omega) qFr.refl (fun t a b => by omega)
  intro j
  induction j with
  | zero =>
    intro x m1 hx x0 f1 h1
    have e26 : m1 120 26 = n := by rw [f1 120 26 (by omega)]; exact hn
    have ex : x = n := by omega
    subst ex
    refine r_X12_text_355 hJ ?_
    rw [e26]
    exact ⟨by omega, by omega, fun _ => hQ m1 f1 h1, fun h => by omega⟩
  | succ j ih =>
    intro x m1 hx x0 f1 h1
    have e26 : m1 120 26 = n := by rw [f1 120 26 (by omega)]; exact hn
    have e125 : m1 125 = m 125 := qFr_at f1 125 (fun k => by omega)
    have e3 : m1 135 (6 * x + 3) = 0 := by rw [f1 135 _ (by omega)]; exact hz _ (by omega) (by omega)
    have e2 : m1 135 (6 * x + 2) = 0 := by rw [f1 135 _ (by omega)]; exact hz _ (by omega) (by omega)
    have hT := hT x x0 (by omega)
    have mo : ∀ m2, qFr (fun a k => a = 135 ∧ 6 * x ≤ k ∧ k < 6 * (x + 1)) m1 m2 → qFr (fun a k => a = 135 ∧ 0 ≤ k ∧ k < 6 * (x + 1)) m m2 := fun m2 f2 => (f1.mono (fun a k h => by omega)).trans (f2.mono (fun a k h => by omega))
    have od : ∀ m2, qFr (fun a k => a = 135 ∧ 6 * x ≤ k ∧ k < 6 * (x + 1)) m1 m2 → qW0 (m 125) x (m2 135) → ∀ t, 0 ≤ t → t < x + 1 → qW0 (m 125) t (m2 135) := by
      intro m2 f2 hw t t0 t1
      by_cases ht : t = x
      · rw [ht]; exact hw
      · have := h1 t t0 (by omega)
        unfold qW0 at this ⊢
        rw [f2 135 (6 * t) (by omega), f2 135 (6 * t + 1) (by omega), f2 135 (6 * t + 2) (by omega), f2 135 (6 * t + 3) (by omega), f2 135 (6 * t + 4) (by omega), f2 135 (6 * t + 5) (by omega)]
        exact this
    refine r_X12_text_355 hJ ?_
    simp (disch := omega) only [e26, e125, qup_s, qup_o]
    refine ⟨by omega, by omega, fun h => by omega, fun _ => ⟨by omega, by omega, by omega, by omega, by omega, by omega, by omega, hT.2, hT.1, fun hc => ⟨by omega, by omega, ?_⟩, fun hc => ?_⟩⟩
    · have f2 : qFr (fun a k => a = 135 ∧ 6 * x ≤ k ∧ k < 6 * (x + 1)) m1 (up (up (up (up (up (up m1 135 (6 * x) (m 125 (4 * x + 2))) 135 (6 * x + 1) (-1)) 135 (6 * x + 4) (-1)) 135 (6 * x + 5) (-1)) 135 (6 * x + 2) 1) 135 (6 * x + 4) 0) := by
        refine qFr_up (qFr_up (qFr_up (qFr_up (qFr_up (qFr_up qFr.refl ?_) ?_) ?_) ?_) ?_) ?_ <;> omega
      refine ih (x + 1) _ (by omega) (by omega) (mo _ f2) (od _ f2 ?_)
      unfold qW0
      rw [if_pos hc, if_pos hc]
      simp (disch := omega) only [qup_s, qup_o, e3]
      exact ⟨trivial, trivial, trivial, trivial, trivial, trivial⟩
    · have f2 : qFr (fun a k => a = 135 ∧ 6 * x ≤ k ∧ k < 6 * (x + 1)) m1 (up (up (up (up m1 135 (6 * x) (m 125 (4 * x + 2))) 135 (6 * x + 1) (-1)) 135 (6 * x + 4) (-1)) 135 (6 * x + 5) (-1)) := by
        refine qFr_up (qFr_up (qFr_up (qFr_up qFr.refl ?_) ?_) ?_) ?_ <;> omega
      refine ih (x + 1) _ (by omega) (by omega) (mo _ f2) (od _ f2 ?_)
      unfold qW0
      rw [if_neg (by omega), if_neg (by omega)]
      simp (disch := omega) only [qup_s, qup_o, e3, e2]
      exact ⟨trivial, trivial, trivial, trivial, trivial, trivial⟩
end MTT
