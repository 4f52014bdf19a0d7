/-! B: the model's fault, with what was read -/
section MF3
variable {xs : List Int32} {d : Nat} {Q : bPo} {b b0 b1 b2 : Bool} {m : Nat → Int → Int} {nT nH : Int} {T P E U N : Int → Int} {t s h k : Int}
variable {B : Int → Int} {L : Int}
theorem d_faultB (ht : qTp L B) (hc : qTm m L B) (hQ : ∀ m', qFr qFfm m m' → ((qBrd B L).1 = -1 → m' 134 4 = (qBrd B L).2.1 ∧ ∀ i, 0 ≤ i → i < (qBrd B L).2.1 → m' 133 (48 + i) = (qBrd B L).2.2 i) → Q (qBrd B L).1 ((b0, b1, false), m')) : bC xs 250 206 [vr 120, vi 2] ((b0, b1, b2), m) Q := by
  refine qC rfl fun d hd => r_X12_fault_0 hd ?_
  have hb := ht.1
  have f0 : qFr qFfm m (up m 120 0 0) := qFr_up qFr.refl (by unfold qFfm; omega)
  have hc0 : qTm (up m 120 0 0) L B := ⟨by rw [qup_o (by omega)]; exact hc.1, fun k a b => by rw [qup_n (by omega)]; exact hc.2 k a b⟩
  refine ⟨by omega, by omega, fun h => by omega, fun h => ⟨by omega, fun h2 => by omega, fun h2 => ⟨by omega, fun n0 => ⟨by omega, fun n1 => ⟨by omega, fun n2 => by omega, fun n2 => ?_⟩, fun n1 => by omega⟩, fun n0 => by omega⟩⟩⟩
  refine d_readRow ht hc0 (fun m' fr e11 hy => ⟨⟨rfl, rfl⟩, ?_⟩)
  dsimp only
  rw [e11]
  exact hQ m' (f0.trans (fr.mono (fun a k h => by unfold qFfm; omega))) hy
theorem d_faultW (ht : qTp L B) (hc : qTm m L B) (σ0 : qSt) (r0 : qRl σ0) (mo : qMo0 m σ0) (hQ : ∀ m', qFr qFfm m m' → ((qWL B L 240 σ0 0).1 = -1 → qMs m' (qWL B L 240 σ0 0).2) → Q (qWL B L 240 σ0 0).1 ((b0, b1, false), m')) : bC xs 250 206 [vr 120, vi 0] ((b0, b1, b2), m) Q := by
  refine qC rfl fun d hd => r_X12_fault_0 hd ?_
  have hb := ht.1
  have f0 : qFr qFfm m (up m 120 0 0) := qFr_up qFr.refl (by unfold qFfm; omega)
  have hc0 : qTm (up m 120 0 0) L B := ⟨by rw [qup_o (by omega)]; exact hc.1, fun k a b => by rw [qup_n (by omega)]; exact hc.2 k a b⟩
  have mo0 : qMo0 (up m 120 0 0) σ0 := by
    unfold qMo0 at mo ⊢
    rw [qup_n (by omega), qup_n (by omega), qup_n (by omega), qup_n (by omega)]
    exact mo
  refine ⟨by omega, by omega, fun h => by omega, fun h => ⟨by omega, fun h2 => by omega, fun h2 => ⟨by omega, fun n0 => absurd rfl n0, fun n0 => ?_⟩⟩⟩
  refine d_readWill ht hc0 σ0 r0 mo0 (fun m' fr e11 hy => ⟨⟨rfl, rfl⟩, by omega, fun _ => ⟨by omega, fun _ => ?_, fun h => by omega⟩, fun h => by omega⟩)
  dsimp only
  rw [e11]
  exact hQ m' (f0.trans (fr.mono (fun a k h => Or.inl h))) hy
end MF3
