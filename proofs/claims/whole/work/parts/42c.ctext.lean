/-! B: text, the class -/
section CTX
variable {xs : List Int32} {d : Nat} {Q : bPo} {b b0 b1 b2 : Bool} {m : Nat → Int → Int} {nT nH : Int} {T P E U N : Int → Int} {t s h k : Int}
variable {B : Int → Int} {L x : Int}
theorem c_textB {c : Int} (ht : qTp L B) (hc : qTc m L B) (hcnt : m 24 2 = c) (c0 : 0 ≤ c ∧ c ≤ 4) (hF : ∀ m', qFr (qFfc (bW b1) c) m m' → (4 ≤ c ∨ ¬ (qBrd B L).1 = -1) → Q (-1) ((b0, b1, b2), m')) (hY : c < 4 → (qBrd B L).1 = -1 → ∀ m', qFr (fun a k => (a = 1 ∧ (k = 2 ∨ k = 3)) ∨ (a = 25 ∧ c * 1000 ≤ k) ∨ (a = 31 ∧ k = c)) m m' → m' 31 c = (qBrd B L).2.1 → (∀ i, 0 ≤ i → i < (qBrd B L).2.1 → m' 25 (c * 1000 + i) = (qBrd B L).2.2 i) → Q c ((b0, b1, b2), up (up m' 24 2 (c + 1)) 1 1 0)) : inR (m 24 2) ∧ ((4 ≤ m 24 2 → (Q (-1) ((b0, b1, b2), m))) ∧ (m 24 2 < 4 → (bC xs 2 1 [vr 24, vr 1] ((b0, b1, b2), m) (fun z1 μ2 => (μ2.1 = (b0, b1, b2)) ∧ (inR z1 ∧ ((¬ z1 = (-1) → (Q (-1) ((b0, b1, b2), μ2.2))) ∧ (z1 = (-1) → (inR (((μ2.2 24 2) + 1) - 1) ∧ ((((μ2.2 24 2) + 1) - 1 = (-1) → (Q (((μ2.2 24 2) + 1) - 1) ((b0, b1, b2), up μ2.2 24 2 ((μ2.2 24 2) + 1)))) ∧ (¬ ((μ2.2 24 2) + 1) - 1 = (-1) → (Q (((μ2.2 24 2) + 1) - 1) ((b0, b1, b2), up (up μ2.2 24 2 ((μ2.2 24 2) + 1)) 1 1 0)))))))))))) := by
  have hb := ht.1
  have hbr := qBR_ok ht 13 0 (fun _ => 0) 0 (by omega) (by omega) (by omega) (by omega) (by omega) (fun i a b => by omega)
  change (0 ≤ (qBrd B L).1 ∧ (qBrd B L).1 ≤ L) ∨ ((qBrd B L).1 = -1 ∧ _) at hbr
  have hr : inR (qBrd B L).1 := by
    rcases hbr with h | h
    · omega
    · have := h.1; omega
  refine ⟨by omega, fun h => hF m qFr.refl (Or.inl (by omega)), fun h => c_readBeg ht hc hcnt c0 ?_⟩
  intro m' fr hy
  have e24 : m' 24 2 = c := by rw [fr 24 2 (by omega)]; exact hcnt
  dsimp only
  rw [e24, show c + 1 - 1 = c by omega]
  refine ⟨rfl, hr, fun nok => hF m' (fr.mono (fun a k h => ?_)) (Or.inr nok), fun ok => ⟨by omega, fun h => by omega, fun _ => hY (by omega) ok m' fr (hy ok).1 (hy ok).2⟩⟩
  rcases h with h | h | h
  · refine Or.inr (Or.inl ?_)
    unfold qLg
    omega
  · exact Or.inr (Or.inr (Or.inl h))
  · exact Or.inr (Or.inr (Or.inr h))
end CTX
