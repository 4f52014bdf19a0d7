/-! B: text, the model: a law -/
section MT1
variable {xs : List Int32} {d : Nat} {Q : bPo} {b b0 b1 b2 : Bool} {m : Nat → Int → Int} {nT nH : Int} {T P E U N : Int → Int} {t s h k : Int}
variable {B : Int → Int} {L n : Int}
theorem d_text1 (ht : qTp L B) (hc : qTm m L B) (hl : ∀ k, qbn (m 124 k)) (hn : m 120 7 = n) (n0 : 0 ≤ n ∧ n ≤ 6) (hF : ∀ b2' m', qFr qFfm m m' → (n = 6 ∨ ¬ (qLw B L 2440 240 0).1 = -1) → Q (-1) ((b0, b1, b2'), m')) (hL : n < 6 → (qLw B L 2440 240 0).1 = -1 → ∀ b2' m', qFr (fun a k => qFfm a k ∨ (a = 122 ∧ 240 * n ≤ k ∧ k < 240 * n + 240) ∨ (a = 123 ∧ k = n) ∨ (a = 120 ∧ (k = 6 ∨ k = 7))) m m' → m' 120 6 = 0 → m' 120 7 = n + 1 → m' 123 n = L → (∀ k, 0 ≤ k → k < L → m' 122 (240 * n + k) = qsb (B k)) → Q n ((b0, b1, b2'), m')) : bC xs 251 207 [vr 120, vi 1] ((b0, b1, b2), m) Q := by
  refine qC rfl fun d hd => r_X12_text_0 hd ?_
  have hb := ht.1
  have f0 : qFr qFfm m (up m 120 0 0) := qFr_up qFr.refl (by unfold qFfm; omega)
  have hc0 : qTm (up m 120 0 0) L B := ⟨by rw [qup_o (by omega)]; exact hc.1, fun k a b => by rw [qup_n (by omega)]; exact hc.2 k a b⟩
  have hin := qLw_in (f := 2440) ht (by omega) 240 0 (by omega) (by omega) (by omega)
  refine ⟨by omega, by omega, fun h => by omega, fun _ => ⟨by omega, fun h => by omega, fun _ => ⟨by omega, fun h => absurd rfl h, fun _ => ⟨by omega, fun h6 => hF _ _ f0 (Or.inl (by omega)), fun h6 => ⟨by omega, fun _ => d_fault ht hc0 (fun k => by rw [qup_n (by omega)]; exact hl k) (by omega) (a := (qLw B L 2440 240 0).1) (Or.inr (Or.inr (Or.inl ⟨rfl, rfl⟩))) ?_, fun h => by omega⟩⟩⟩⟩⟩
  intro b2' m1 f1
  have f01 := f0.trans f1
  refine ⟨⟨rfl, rfl⟩, by omega, fun ok => ⟨by omega, fun h => absurd rfl h, fun _ => ?_⟩, fun nok => hF _ m1 f01 (Or.inr nok)⟩
  have e7 : (up m1 120 6 0) 120 7 = n := by rw [qup_o (by omega), f01 120 7 (by unfold qFfm qFwm; omega)]; exact hn
  have e6 : m1 120 6 = L := by rw [f01 120 6 (by unfold qFfm qFwm; omega)]; exact hc.1
  dsimp only
  rw [e6]
  refine d_textL hd ht e7 (by omega) (fun k a b => by rw [qup_n (by omega), f01 121 k (by unfold qFfm qFwm; omega)]; exact hc.2 k a b) ?_
  intro m2 f2 a7 a123 a122
  refine hL (by omega) ok b2' m2 ?_ ?_ a7 a123 a122
  · refine qFr.trans (qFr_up (f01.mono (fun a k h => Or.inl h)) (Or.inr (Or.inr (Or.inr ⟨rfl, Or.inl rfl⟩)))) (f2.mono (fun a k h => Or.inr ?_))
    rcases h with h | h | h
    · exact Or.inl h
    · exact Or.inr (Or.inl h)
    · exact Or.inr (Or.inr ⟨h.1, Or.inr h.2⟩)
  · rw [f2 120 6 (by omega), qup_s]
end MT1
