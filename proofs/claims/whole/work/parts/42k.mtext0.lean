/-! B: text, the model: no such kind; a beginning -/
section MT0
variable {xs : List Int32} {d : Nat} {Q : bPo} {b b0 b1 b2 : Bool} {m : Nat → Int → Int} {nT nH : Int} {T P E U N : Int → Int} {t s h k : Int}
variable {B : Int → Int} {L x n : Int}
theorem d_textN (hx : inR x) (h : x < 0 ∨ 2 < x) (hQ : Q (-1) ((b0, b1, b2), up m 120 0 0)) : bC xs 251 207 [vr 120, vi x] ((b0, b1, b2), m) Q := by
  refine qC rfl fun d hd => r_X12_text_0 hd ?_
  exact ⟨hx, by omega, fun _ => hQ, fun h0 => ⟨by omega, fun _ => hQ, fun h2 => by omega⟩⟩
theorem d_text2 (ht : qTp L B) (hc : qTm m L B) (hn : m 120 34 = n) (n0 : 0 ≤ n ∧ n ≤ 4) (hF : ∀ b2' m', qFr qFfm m m' → (n = 4 ∨ ¬ (qBrd B L).1 = -1) → Q (-1) ((b0, b1, b2'), m')) (hB : n < 4 → (qBrd B L).1 = -1 → ∀ m', qFr (fun a k => qFfm a k ∨ (a = 133 ∧ 12 * n ≤ k ∧ k < 12 * n + 12) ∨ (a = 134 ∧ k = n) ∨ (a = 120 ∧ (k = 6 ∨ k = 34))) m m' → m' 120 6 = 0 → m' 120 34 = n + 1 → m' 134 n = (qBrd B L).2.1 → (∀ i, 0 ≤ i → i < (qBrd B L).2.1 → i < 12 → m' 133 (12 * n + i) = (qBrd B L).2.2 i) → Q n ((b0, b1, false), m')) : bC xs 251 207 [vr 120, vi 2] ((b0, b1, b2), m) Q := by
  refine qC rfl fun d hd => r_X12_text_0 hd ?_
  have hb := ht.1
  have f0 : qFr qFfm m (up m 120 0 0) := qFr_up qFr.refl (by unfold qFfm; omega)
  have hc0 : qTm (up m 120 0 0) L B := ⟨by rw [qup_o (by omega)]; exact hc.1, fun k a b => by rw [qup_n (by omega)]; exact hc.2 k a b⟩
  have hbr := qBR_ok ht 13 0 (fun _ => 0) 0 (by omega) (by omega) (by omega) (by omega) (by omega) (fun i a b => by omega)
  change (0 ≤ (qBrd B L).1 ∧ (qBrd B L).1 ≤ L) ∨ ((qBrd B L).1 = -1 ∧ _) at hbr
  have hr : inR (qBrd B L).1 := by
    rcases hbr with h | h
    · omega
    · have := h.1; omega
  refine ⟨by omega, by omega, fun h => by omega, fun _ => ⟨by omega, fun h => by omega, fun _ => ⟨by omega, fun _ => ⟨by omega, fun h => absurd rfl h, fun _ => ⟨by omega, fun h4 => hF _ _ f0 (Or.inl (by omega)), fun h4 => d_faultB ht hc0 ?_⟩⟩, fun h => by omega⟩⟩⟩
  intro m1 f1 hy
  have f01 := f0.trans f1
  refine ⟨⟨rfl, rfl⟩, hr, fun ok => ⟨by omega, fun _ => ⟨by omega, fun h => absurd rfl h, fun _ => ?_⟩, fun h => by omega⟩, fun nok => hF _ m1 f01 (Or.inr nok)⟩
  have e34 : (up m1 120 6 0) 120 34 = n := by rw [qup_o (by omega), f01 120 34 (by unfold qFfm qFwm; omega)]; exact hn
  refine d_textB hd e34 (by omega) ?_
  intro m2 f2 a34 a134 a133
  have hy := hy ok
  refine hB (by omega) ok m2 ?_ ?_ a34 ?_ ?_
  · refine qFr.trans (qFr_up (f01.mono (fun a k h => Or.inl h)) (Or.inr (Or.inr (Or.inr ⟨rfl, Or.inl rfl⟩)))) (f2.mono (fun a k h => Or.inr ?_))
    rcases h with h | h | h
    · exact Or.inl h
    · exact Or.inr (Or.inl h)
    · exact Or.inr (Or.inr ⟨h.1, Or.inr h.2⟩)
  · rw [f2 120 6 (by omega), qup_s]
  · rw [a134, qup_n (by omega)]; exact hy.1
  · intro i i0 i1 i2
    rw [a133 i i0 i2, qup_n (by omega)]
    exact hy.2 i i0 i1
end MT0
