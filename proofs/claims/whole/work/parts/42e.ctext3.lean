/-! B: text, the class, its whole -/
/-- why text fails -/
def qTx (m : Nat → Int → Int) (B : Int → Int) (L x l c : Int) : Prop := (¬ x = 0 ∧ ¬ x = 1 ∧ ¬ x = 2) ∨ (x = 0 ∧ ∃ σ0, qRl σ0 ∧ qMo0 m σ0 ∧ ¬ (qWL B L 240 σ0 0).1 = -1) ∨ (x = 1 ∧ (6 ≤ l ∨ ¬ (qLw B L 2440 240 0).1 = -1)) ∨ (x = 2 ∧ (4 ≤ c ∨ ¬ (qBrd B L).1 = -1))
def qFtl (l : Int) (a : Nat) (k : Int) : Prop := qLg a k ∨ (a = 7 ∧ l * 1000 ≤ k ∧ k < l * 1000 + 240) ∨ (a = 14 ∧ k = l) ∨ (a = 17 ∧ l * 1000 ≤ k ∧ k < l * 1000 + 160) ∨ (a = 6 ∧ k = 6)
section CT3
variable {xs : List Int32} {d : Nat} {Q : bPo} {b b0 b1 b2 : Bool} {m : Nat → Int → Int} {nT nH : Int} {T P E U N : Int → Int} {t s h k : Int}
variable {B : Int → Int} {L x : Int}
theorem c_text {c l : Int} (ht : qTp L B) (hc : qTc m L B) (hcnt : m 24 2 = c) (c0 : 0 ≤ c ∧ c ≤ 4) (hl : m 6 6 = l) (l0 : 0 ≤ l ∧ l ≤ 6) (hx : inR x)
    (hF : ∀ m', qFr (qFfc (bW b1) c) m m' → qTx m B L x l c → Q (-1) ((b0, b1, b2), m'))
    (hW : x = 0 → ∀ (σ0 : qSt) m', qRl σ0 → qMo0 m σ0 → (qWL B L 240 σ0 0).1 = -1 → qFr (qFrd (bW b1)) m m' → qCs m' (bW b1) (qWL B L 240 σ0 0).2 → Q ((qWL B L 240 σ0 0).2 0 9) ((b1, b0, b2), up (up (up (up (up m' 0 12 (-1)) 32 3 0) 36 3 0) 36 4 0) 1 1 0))
    (hL : x = 1 → l < 6 → (qLw B L 2440 240 0).1 = -1 → ∀ m', qFr (qFtl l) m m' → m' 6 6 = l + 1 → m' 14 l = (qlayL 0 (qLw B L 2440 240 0).2).length → qSeg (fun k => m' 7 (l * 1000 + k)) 0 (qlayL 0 (qLw B L 2440 240 0).2) → (∀ k, 0 ≤ k → k < 160 → m' 17 (l * 1000 + k) = -1) → Q l ((b0, b1, b2), up m' 1 1 0))
    (hB : x = 2 → c < 4 → (qBrd B L).1 = -1 → ∀ m', qFr (fun a k => (a = 1 ∧ (k = 2 ∨ k = 3)) ∨ (a = 25 ∧ c * 1000 ≤ k) ∨ (a = 31 ∧ k = c)) m m' → m' 31 c = (qBrd B L).2.1 → (∀ i, 0 ≤ i → i < (qBrd B L).2.1 → m' 25 (c * 1000 + i) = (qBrd B L).2.2 i) → Q c ((b0, b1, b2), up (up m' 24 2 (c + 1)) 1 1 0)) :
    bC xs 245 130 [vr 0, vi x] ((b0, b1, b2), m) Q := by
  refine qC rfl fun d hd => r_X11_text_0 hd ?_
  have hb := ht.1
  refine ⟨hx, fun n0 => ⟨hx, fun n1 => ⟨hx, fun n2 => hF m qFr.refl (Or.inl ⟨n0, n1, n2⟩), fun e2 => c_textB ht hc hcnt c0 (fun m' fr h => hF m' fr (Or.inr (Or.inr (Or.inr ⟨e2, h⟩)))) (hB e2)⟩, fun e1 => ⟨by omega, fun h6 => ⟨hx, fun _ => hF m qFr.refl (Or.inr (Or.inr (Or.inl ⟨e1, Or.inl (by omega)⟩))), fun h => by omega⟩, fun h6 => c_readLaw ht hc ?_⟩⟩, fun e0 => c_readWill ht hc ?_⟩
  · intro m1 f1 hy
    have hin := qLw_in (f := 2440) ht (by omega) 240 0 (by omega) (by omega) (by omega)
    refine ⟨rfl, by omega, fun nok => ⟨hx, fun _ => hF m1 (f1.mono (fun a k h => Or.inr (Or.inl h))) (Or.inr (Or.inr (Or.inl ⟨e1, Or.inr nok⟩))), fun h => by omega⟩, fun ok => ?_⟩
    obtain ⟨h42, hsg⟩ := hy ok
    have hlen := (qLw_good (E := fun _ => 0) (f := 2440) ht (fun _ => by unfold qbn; omega) (by omega) 240 0 (by omega) (by omega) ok).2 0
    have e66 : m1 6 6 = l := by rw [f1 6 6 (by unfold qLg; omega)]; exact hl
    dsimp only
    rw [h42]
    refine c_lawAdd e66 l0.1 (by omega) rfl (by omega) hsg ?_
    intro m2 f2 a66 a14 aseg afill
    refine ⟨rfl, by omega, fun h => by omega, fun _ => hL e1 (by omega) ok m2 ?_ a66 a14 aseg afill⟩
    exact (f1.mono (fun a k h => Or.inl h)).trans (f2.mono (fun a k h => Or.inr h))
  · intro σ0 m1 r0 mo f1 hy
    have hin := qWL_in ht 240 σ0 0 (by omega) (by omega)
    refine ⟨rfl, by omega, fun ok => ?_, fun nok => hF m1 (f1.mono (fun a k h => Or.inl h)) (Or.inr (Or.inl ⟨e0, σ0, r0, mo, nok⟩))⟩
    have hcs := hy ok
    have hrl := qWL_rl ht 240 σ0 0 (by omega) (by omega) r0 ok
    have hA := hrl.1
    unfold qAq at hA
    have e9 : m1 (bW b1) 9 = (qWL B L 240 σ0 0).2 0 9 := congrFun (hcs 0 (by omega)) 9
    dsimp only
    rw [e9]
    exact ⟨by omega, fun h => by omega, fun _ => hW e0 σ0 m1 r0 mo ok f1 hcs⟩
end CT3
